/-- .. over numbers -/
def mxN : Nat → (Nat → Nat) → Nat
  | 0, _ => 0
  | n + 1, f => if f n < mxN n f then mxN n f else f n
def CN (N : Nat) (T : Nat → Nat → Nat) : Nat → Nat → Nat
  | 0, _ => 1
  | k + 1, x => mxN N (fun y => T x y * CN N T k y)
theorem mxN_le {n B : Nat} {f : Nat → Nat} (h : ∀ y, y < n → f y ≤ B) : mxN n f ≤ B := by
  induction n with
  | zero => exact Nat.zero_le _
  | succ n ih =>
    show (if f n < mxN n f then mxN n f else f n) ≤ B
    split
    · exact ih (fun y hy => h y (by omega))
    · exact h n (by omega)
theorem mx_lN {n : Nat} {f : Nat → Int64} {g : Nat → Nat} (h : ∀ y, y < n → f y = lN (g y) ∧ g y < 2 ^ 63) : mx n f = lN (mxN n g) := by
  induction n with
  | zero => rfl
  | succ n ih =>
    have ih := ih (fun y hy => h y (by omega))
    have hb : mxN n g < 2 ^ 63 := Nat.lt_of_le_of_lt (mxN_le (B := 2 ^ 63 - 1) (fun y hy => by have := (h y (by omega)).2; omega)) (by decide)
    show (if f n < mx n f then mx n f else f n) = lN (if g n < mxN n g then mxN n g else g n)
    rw [ih, (h n (by omega)).1]
    simp only [lN_ilt (h n (by omega)).2 hb]
    split <;> rfl
theorem CN_le {N : Nat} {T : Nat → Nat → Nat} (hT : ∀ x y, x < N → y < N → T x y ≤ 1000) : ∀ k x, x < N → CN N T k x ≤ 1000 ^ k := by
  intro k
  induction k with
  | zero => intro x _; exact Nat.le_refl _
  | succ k ih =>
    intro x hx
    refine mxN_le (fun y hy => ?_)
    rw [Nat.pow_succ, Nat.mul_comm (1000 ^ k)]
    exact Nat.mul_le_mul (hT x y hx hy) (ih y hy)
theorem p1000 {k : Nat} (h : k ≤ 5) : 1000 ^ k ≤ 10 ^ 15 := by
  have h3 : 1000 ^ k ≤ 1000 ^ 5 := Nat.pow_le_pow_right (by decide) h
  have h4 : (1000 : Nat) ^ 5 = 10 ^ 15 := by decide
  omega
theorem CHb {N : Nat} {T : Nat → Nat → Nat} (hT : ∀ x y, x < N → y < N → T x y ≤ 1000) {k x y : Nat} (hx : x < N) (hy : y < N) (hk : k ≤ 5) : T x y * CN N T k y < 2 ^ 62 := by
  have h1 := Nat.mul_le_mul (hT x y hx hy) (CN_le hT k y hy)
  have h2 := p1000 hk
  omega
theorem CH_lN {N : Nat} {T : Nat → Nat → Nat} (hT : ∀ x y, x < N → y < N → T x y ≤ 1000) : ∀ k, k ≤ 5 → ∀ x, x < N → CH N T k x = lN (CN N T k x) := by
  intro k
  induction k with
  | zero => intro _ x _; rfl
  | succ k ih =>
    intro hk x hx
    refine mx_lN (g := fun y => T x y * CN N T k y) (fun y hy => ?_)
    rw [ih (by omega) y hy, lN_mul]
    exact ⟨rfl, Nat.lt_trans (CHb hT hx hy (by omega)) (by decide)⟩
theorem mxN_at {n : Nat} {f : Nat → Nat} (h : 1 ≤ n) : ∃ y, y < n ∧ f y = mxN n f := by
  induction n with
  | zero => omega
  | succ n ih =>
    show ∃ y, y < n + 1 ∧ f y = if f n < mxN n f then mxN n f else f n
    by_cases c : f n < mxN n f
    · rw [if_pos c]
      by_cases d : n = 0
      · subst d
        exact absurd c (Nat.not_lt_zero _)
      · obtain ⟨y, hy, e⟩ := ih (by omega)
        exact ⟨y, by omega, e⟩
    · rw [if_neg c]
      exact ⟨n, by omega, rfl⟩
/-- the first number below n with a property -/
def fi (f : Nat → Bool) : Nat → Nat
  | 0 => 0
  | n + 1 => if fi f n < n then fi f n else if f n then n else n + 1
theorem fi_le {f : Nat → Bool} : ∀ n, fi f n ≤ n := by
  intro n
  induction n with
  | zero => exact Nat.le_refl _
  | succ n ih =>
    show (if fi f n < n then fi f n else if f n then n else n + 1) ≤ n + 1
    split
    · omega
    · split <;> omega
theorem fi_min {f : Nat → Bool} : ∀ n y, y < fi f n → f y = false := by
  intro n
  induction n with
  | zero => intro y hy; exact absurd hy (Nat.not_lt_zero _)
  | succ n ih =>
    intro y hy
    have e : fi f (n + 1) = (if fi f n < n then fi f n else if f n then n else n + 1) := rfl
    rw [e] at hy
    have hn : fi f n ≤ n := fi_le n
    by_cases c : fi f n < n
    · rw [if_pos c] at hy
      exact ih y hy
    · rw [if_neg c] at hy
      by_cases d : f n = true
      · rw [if_pos d] at hy
        exact ih y (by omega)
      · rw [if_neg d] at hy
        by_cases g : y = n
        · rw [g]
          simpa using d
        · exact ih y (by omega)
theorem fi_at {f : Nat → Bool} : ∀ n, fi f n < n → f (fi f n) = true := by
  intro n
  induction n with
  | zero => intro h; exact absurd h (Nat.not_lt_zero _)
  | succ n ih =>
    intro h
    have e : fi f (n + 1) = (if fi f n < n then fi f n else if f n then n else n + 1) := rfl
    have hn : fi f n ≤ n := fi_le n
    by_cases c : fi f n < n
    · rw [if_pos c] at e
      rw [e]
      exact ih c
    · rw [if_neg c] at e
      by_cases d : f n = true
      · rw [if_pos d] at e
        rw [e]
        exact d
      · rw [if_neg d] at e
        omega
theorem fi_lt {f : Nat → Bool} {n y : Nat} (hy : y < n) (h : f y = true) : fi f n < n := by
  apply Classical.byContradiction
  intro c
  have := fi_min (f := f) n y (by omega)
  rw [h] at this
  exact absurd this (by decide)
/-- the next state of the likeliest run from x, of k + 1 steps -/
def nxt (N : Nat) (T : Nat → Nat → Nat) (k x : Nat) : Nat := fi (fun y => decide (T x y * CN N T k y = CN N T (k + 1) x)) N
theorem nxt_lt {N : Nat} {T : Nat → Nat → Nat} {k x : Nat} (hN : 1 ≤ N) : nxt N T k x < N := by
  obtain ⟨y, hy, e⟩ := mxN_at (f := fun y => T x y * CN N T k y) hN
  exact fi_lt hy (decide_eq_true e)
theorem nxt_eq {N : Nat} {T : Nat → Nat → Nat} {k x : Nat} (hN : 1 ≤ N) : T x (nxt N T k x) * CN N T k (nxt N T k x) = CN N T (k + 1) x := of_decide_eq_true (fi_at (f := fun y => decide (T x y * CN N T k y = CN N T (k + 1) x)) N (nxt_lt hN))
theorem nxt_ne {N : Nat} {T : Nat → Nat → Nat} {k x y : Nat} (hy : y < nxt N T k x) : T x y * CN N T k y ≠ CN N T (k + 1) x := of_decide_eq_false (fi_min (f := fun y => decide (T x y * CN N T k y = CN N T (k + 1) x)) N y hy)
def sq (N : Nat) (T : Nat → Nat → Nat) (st H : Nat) : Nat → Nat
  | 0 => st
  | k + 1 => nxt N T (H - (k + 1)) (sq N T st H k)
theorem sq_lt {N st H : Nat} {T : Nat → Nat → Nat} (hst : st < N) : ∀ k, sq N T st H k < N := by
  intro k
  cases k with
  | zero => exact hst
  | succ k => exact nxt_lt (by omega)
theorem lN_eqx {a b : Nat} (ha : a < 2 ^ 63) (hb : b < 2 ^ 63) : (lN a = lN b) = (a = b) := propext ⟨fun h => by
  have := congrArg Int64.toInt h
  rw [lN_toI ha, lN_toI hb] at this
  omega, fun h => by rw [h]⟩
/-- class: all chances, then the next state -/
theorem likeliestNext_eq {Z : Nat} {M : Mem} {N H k : Nat} (h3 : gI M 3 0 = nI N) (hN1 : 1 ≤ N) (hN : N ≤ 6) (hZ : 10 < Z) {T : Nat → Nat → Nat} (hTb : ∀ x y, x < N → y < N → T x y ≤ 1000) (hT : MT 17 M (fun x y => if x < N ∧ y < N then lN (T x y) else 0)) (h20 : MT 20 M (fun k x => if k ≤ H ∧ x < N then CH N T k x else 1)) (hH : H ≤ 5) (hk : k + 1 ≤ H) {x : Nat} (hx : x < N) : f_X1_likeliestNext Z M (nI x) (nI (k + 1)) = some (nI (nxt N T k x), M) := by
  have hlt := nxt_lt (T := T) (k := k) (x := x) hN1
  have hc : ∀ y, y < N → f_X1_chanceOver Z M (nI x) (nI y) (nI (k + 1)) = some (lN (T x y * CN N T k y), M) := fun y hy => by
    rw [chanceOver_eq hT h20 (by omega) (by omega) (by omega), if_pos ⟨hx, hy⟩, if_pos ⟨by omega, hy⟩, CH_lN hTb k (by omega) y hy, lN_mul]
  have hv : gL M 20 ((k + 1) * 6 + x) = lN (CN N T (k + 1) x) := by
    rw [h20.at (show k + 1 < 6 by omega) (show x < 6 by omega), if_pos ⟨hk, hx⟩, CH_lN hTb (k + 1) (by omega) x hx]
  have hcb : CN N T (k + 1) x < 2 ^ 63 := by
    have h1 := CN_le hTb (k + 1) x hx
    have h2 := p1000 (k := k + 1) (by omega)
    omega
  unfold f_X1_likeliestNext
  rw [i0]
  refine lpS (σ := Unit) (fun n i _ => f_X1_likeliestNext_L2 Z (nI x) (nI (k + 1)) n (nI i) M) (fun r => r = some (nI (nxt N T k x), M)) (fun _ _ => True) 0 (nxt N T k x) (s := ()) (by omega) (by omega) trivial ?_ ?_
  · intro n y _ _ hy _ K
    have hb := CHb hTb hx (show y < N by omega) (show k ≤ 5 by omega)
    rw [f_X1_likeliestNext_L2, bd_eq, h3]
    simp (disch := omega) only [if_neg (show ¬ N ≤ y by omega), nI_ile, hc y (by omega), cl_some, i1, i6, nI_mul, nI_add, rdL_n, hv, lN_eqx, if_neg (nxt_ne hy)]
    exact K () trivial
  · intro n _ _
    have hb := CHb hTb hx hlt (show k ≤ 5 by omega)
    rw [f_X1_likeliestNext_L2, bd_eq, h3]
    simp (disch := omega) only [if_neg (show ¬ N ≤ nxt N T k x by omega), nI_ile, hc _ hlt, cl_some, i6, nI_mul, nI_add, rdL_n, hv, lN_eqx, if_pos (nxt_eq hN1)]
theorem stateOfLikeliest_ok {Z : Nat} {M : Mem} {N H st t : Nat} (h3 : gI M 3 0 = nI N) (hN1 : 1 ≤ N) (hN : N ≤ 6) (hZ : 60 < Z) {T : Nat → Nat → Nat} (hTb : ∀ x y, x < N → y < N → T x y ≤ 1000) (hT : MT 17 M (fun x y => if x < N ∧ y < N then lN (T x y) else 0)) (h161 : gI M 16 1 = nI st) (h16 : gI M 16 2 = nI H) (hst : st < N) (h1 : 1 ≤ H) (hH : H ≤ 5) (ht : t ≤ H) : OK (f_X1_stateOfLikeliest Z M (nI t)) (fun v M' => fr [20] M M' ∧ v = nI (sq N T st H t)) := by
  unfold f_X1_stateOfLikeliest
  obtain ⟨_, M1, e1, f1, t1⟩ := fillChances_ok (Z := Z) h3 hN hZ hT h16 h1 hH
  have g3 : gI M1 3 0 = nI N := by rw [f1.I (by decide)]; exact h3
  have g16 : gI M1 16 2 = nI H := by rw [f1.I (by decide)]; exact h16
  have gT := hT.congr (f1.L (show 17 ∉ [20] by decide)) (fun _ _ _ _ => rfl)
  rw [e1, cl_some, bd_eq, f1.I (by decide), h161, i0]
  refine lpS (σ := Unit) (fun n i _ => f_X1_stateOfLikeliest_L11 Z (nI t) n (nI (sq N T st H i)) (nI i) M1) (fun r => OK r _) (fun _ _ => True) 0 t (s := ()) (by omega) (by omega) trivial ?_ ?_
  · intro n k _ _ hk _ K
    have K1 := K () trivial
    have e : nI H - nI k = nI (H - (k + 1) + 1) := by rw [nI_sub (by omega), show H - k = H - (k + 1) + 1 by omega]
    rw [f_X1_stateOfLikeliest_L11, bd_eq, g16]
    simp (disch := omega) only [if_neg (show ¬ t ≤ k by omega), nI_ile, e, likeliestNext_eq g3 hN1 hN (show 10 < Z by omega) hTb gT t1 hH (show H - (k + 1) + 1 ≤ H by omega) (sq_lt hst k), cl_some, i1, nI_add]
    exact K1
  · intro n _ _
    rw [f_X1_stateOfLikeliest_L11]
    simp only [ge_self, if_true]
    exact OK.ret ⟨f1, rfl⟩
