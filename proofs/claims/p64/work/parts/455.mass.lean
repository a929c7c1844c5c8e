/-! sums of amounts of single runs: numbers -/
def MS (N : Nat) (m W u : Nat → Nat) (pc : Nat → Nat → Nat) (st : Nat) : Nat → Nat → Nat → Nat
  | 0, x, s => if x = st ∧ s = 0 then 1 else 0
  | t + 1, y, s => sm N (fun x => sm (m x) (fun a => if u (x * 3 + a) ≤ s then MS N m W u pc st t x (s - u (x * 3 + a)) * W (x * 3 + a) * pc (x * 3 + a) y else 0))
theorem MS_le {N : Nat} {m W u : Nat → Nat} {pc : Nat → Nat → Nat} {st : Nat} : ∀ t x s, MS N m W u pc st t x s ≤ Fl N (Tp m pc W) st t x := by
  intro t
  induction t with
  | zero =>
    intro x s
    show (if x = st ∧ s = 0 then 1 else 0) ≤ (if x = st then 1 else 0)
    by_cases c : x = st
    · rw [if_pos c]
      split <;> omega
    · rw [if_neg c, if_neg (fun z => c z.1)]
      exact Nat.le_refl _
  | succ t ih =>
    intro y s
    refine sm_le (fun x _ => ?_)
    show _ ≤ Fl N (Tp m pc W) st t x * sm (m x) (fun a => W (x * 3 + a) * pc (x * 3 + a) y)
    rw [← sm_mul]
    refine sm_le (fun a _ => ?_)
    by_cases c : u (x * 3 + a) ≤ s
    · rw [if_pos c, Nat.mul_assoc]
      exact Nat.mul_le_mul_right _ (ih x _)
    · rw [if_neg c]
      exact Nat.zero_le _
theorem MS_zero {N : Nat} {m W u : Nat → Nat} {pc : Nat → Nat → Nat} {st : Nat} (hu : ∀ r, u r ≤ 99) : ∀ t x s, 99 * t < s → MS N m W u pc st t x s = 0 := by
  intro t
  induction t with
  | zero =>
    intro x s h
    exact if_neg (by omega)
  | succ t ih =>
    intro y s h
    show sm N _ = 0
    have e : ∀ x, x < N → sm (m x) (fun a => if u (x * 3 + a) ≤ s then MS N m W u pc st t x (s - u (x * 3 + a)) * W (x * 3 + a) * pc (x * 3 + a) y else 0) = 0 := fun x _ => by
      rw [sm_congr (g := fun _ => 0) (fun a _ => ?_), sm_zero]
      have := hu (x * 3 + a)
      by_cases c : u (x * 3 + a) ≤ s
      · rw [if_pos c, ih x _ (by omega), Nat.zero_mul, Nat.zero_mul]
      · rw [if_neg c]
    rw [sm_congr (g := fun _ => 0) e, sm_zero]
theorem sm_pos {n : Nat} {f : Nat → Nat} (h : 0 < sm n f) : ∃ i, i < n ∧ 0 < f i := by
  induction n with
  | zero => exact absurd h (Nat.lt_irrefl 0)
  | succ n ih =>
    by_cases c : 0 < f n
    · exact ⟨n, by omega, c⟩
    · have h2 : 0 < sm n f + f n := h
      obtain ⟨i, hi, e⟩ := ih (by omega)
      exact ⟨i, by omega, e⟩
theorem sm_single {k s u : Nat} {f : Nat → Nat} : sm k (fun i => if s = i + u then f i else 0) = if u ≤ s ∧ s - u < k then f (s - u) else 0 := by
  induction k with
  | zero => rw [if_neg (by omega)]; rfl
  | succ k ih =>
    show sm k _ + (if s = k + u then f k else 0) = _
    rw [ih]
    by_cases c : s = k + u
    · rw [if_pos c, if_neg (by omega), if_pos (by omega), Nat.zero_add, show s - u = k by omega]
    · rw [if_neg c, Nat.add_zero]
      by_cases d : u ≤ s ∧ s - u < k
      · rw [if_pos d, if_pos (by omega)]
      · rw [if_neg d, if_neg (by omega)]
theorem sm_cut {n : Nat} {f : Nat → Nat} : ∀ k, n ≤ k → sm k (fun i => if i < n then f i else 0) = sm n f := by
  intro k
  induction k with
  | zero => intro h; rw [show n = 0 by omega]; rfl
  | succ k ih =>
    intro h
    show sm k _ + (if k < n then f k else 0) = _
    by_cases c : k < n
    · rw [if_pos c, show n = k + 1 by omega]
      show _ = sm k f + f k
      rw [sm_congr (g := f) (fun i hi => if_pos (by omega))]
    · rw [if_neg c, ih (by omega), Nat.add_zero]
theorem sm_block {k : Nat} {f : Nat → Nat} : ∀ n, sm (n * k) f = sm n (fun x => sm k (fun s => f (x * k + s))) := by
  intro n
  induction n with
  | zero => rw [Nat.zero_mul]; rfl
  | succ n ih =>
    show _ = sm n _ + sm k (fun s => f (n * k + s))
    rw [← ih, Nat.add_mul, Nat.one_mul]
    have key : ∀ j, sm (n * k + j) f = sm (n * k) f + sm j (fun s => f (n * k + s)) := by
      intro j
      induction j with
      | zero => rfl
      | succ j ih2 =>
        show sm (n * k + j) f + f (n * k + j) = sm (n * k) f + (sm j _ + f (n * k + j))
        rw [ih2, Nat.add_assoc]
    exact key k
/-- the greatest over y of those that are let -/
def gF (c : Nat → Bool) (f : Nat → Nat) (v : Nat) : Nat → Nat
  | 0 => v
  | n + 1 => if c n then (if gF c f v n < f n then f n else gF c f v n) else gF c f v n
def gA (c : Nat → Nat → Bool) (f : Nat → Nat → Nat) (N : Nat) : Nat → Nat
  | 0 => 0
  | a + 1 => gF (c a) (f a) (gA c f N a) N
theorem gF_ge {c : Nat → Bool} {f : Nat → Nat} {v : Nat} : ∀ n, v ≤ gF c f v n ∧ ∀ y, y < n → c y = true → f y ≤ gF c f v n := by
  intro n
  induction n with
  | zero => exact ⟨Nat.le_refl _, fun y hy => absurd hy (by omega)⟩
  | succ n ih =>
    have e : gF c f v (n + 1) = if c n then (if gF c f v n < f n then f n else gF c f v n) else gF c f v n := rfl
    have hge : gF c f v n ≤ gF c f v (n + 1) := by
      rw [e]
      split
      · split <;> omega
      · exact Nat.le_refl _
    refine ⟨Nat.le_trans ih.1 hge, fun y hy hc => ?_⟩
    by_cases d : y = n
    · subst d
      rw [e, if_pos hc]
      split <;> omega
    · exact Nat.le_trans (ih.2 y (by omega) hc) hge
theorem gF_at {c : Nat → Bool} {f : Nat → Nat} {v : Nat} : ∀ n, gF c f v n = v ∨ ∃ y, y < n ∧ c y = true ∧ f y = gF c f v n := by
  intro n
  induction n with
  | zero => exact Or.inl rfl
  | succ n ih =>
    have e : gF c f v (n + 1) = if c n then (if gF c f v n < f n then f n else gF c f v n) else gF c f v n := rfl
    rw [e]
    by_cases hc : c n = true
    · rw [if_pos hc]
      by_cases g : gF c f v n < f n
      · rw [if_pos g]
        exact Or.inr ⟨n, by omega, hc, rfl⟩
      · rw [if_neg g]
        rcases ih with h | ⟨y, hy, h1, h2⟩
        · exact Or.inl h
        · exact Or.inr ⟨y, by omega, h1, h2⟩
    · rw [if_neg hc]
      rcases ih with h | ⟨y, hy, h1, h2⟩
      · exact Or.inl h
      · exact Or.inr ⟨y, by omega, h1, h2⟩
theorem gA_ge {c : Nat → Nat → Bool} {f : Nat → Nat → Nat} {N : Nat} : ∀ n a y, a < n → y < N → c a y = true → f a y ≤ gA c f N n := by
  intro n
  induction n with
  | zero => intro a y h; omega
  | succ n ih =>
    intro a y ha hy hc
    show f a y ≤ gF (c n) (f n) (gA c f N n) N
    by_cases d : a = n
    · subst d
      exact (gF_ge N).2 y hy hc
    · exact Nat.le_trans (ih a y (by omega) hy hc) (gF_ge N).1
theorem gA_at {c : Nat → Nat → Bool} {f : Nat → Nat → Nat} {N : Nat} : ∀ n, gA c f N n = 0 ∨ ∃ a y, a < n ∧ y < N ∧ c a y = true ∧ f a y = gA c f N n := by
  intro n
  induction n with
  | zero => exact Or.inl rfl
  | succ n ih =>
    show gF (c n) (f n) (gA c f N n) N = 0 ∨ ∃ a y, a < n + 1 ∧ y < N ∧ c a y = true ∧ f a y = gF (c n) (f n) (gA c f N n) N
    rcases gF_at (c := c n) (f := f n) (v := gA c f N n) N with h | ⟨y, hy, h1, h2⟩
    · rw [h]
      rcases ih with h0 | ⟨a, y, g1, g2, g3, g4⟩
      · exact Or.inl h0
      · exact Or.inr ⟨a, y, by omega, g2, g3, g4⟩
    · exact Or.inr ⟨n, y, by omega, hy, h1, h2⟩
theorem gA_att {c : Nat → Nat → Bool} {f : Nat → Nat → Nat} {N n a y : Nat} (ha : a < n) (hy : y < N) (hc : c a y = true) : ∃ a y, a < n ∧ y < N ∧ c a y = true ∧ f a y = gA c f N n := by
  rcases gA_at (c := c) (f := f) (N := N) n with h | h
  · have := gA_ge (c := c) (f := f) n a y ha hy hc
    exact ⟨a, y, ha, hy, hc, by omega⟩
  · exact h
def gC (W : Nat → Nat) (pc : Nat → Nat → Nat) (x a y : Nat) : Bool := decide (0 < W (x * 3 + a)) && decide (0 < pc (x * 3 + a) y)
/-- the greatest sum of k steps from x -/
def GR (N : Nat) (m W u : Nat → Nat) (pc : Nat → Nat → Nat) : Nat → Nat → Nat
  | 0, _ => 0
  | k + 1, x => gA (gC W pc x) (fun a y => u (x * 3 + a) + GR N m W u pc k y) N (m x)
theorem GR_le {N : Nat} {m W u : Nat → Nat} {pc : Nat → Nat → Nat} (hu : ∀ r, u r ≤ 99) : ∀ k x, GR N m W u pc k x ≤ 99 * k := by
  intro k
  induction k with
  | zero => intro x; exact Nat.le_refl _
  | succ k ih =>
    intro x
    rcases gA_at (c := gC W pc x) (f := fun a y => u (x * 3 + a) + GR N m W u pc k y) (N := N) (m x) with h | ⟨a, y, _, _, _, h⟩
    · show gA _ _ _ _ ≤ _
      omega
    · show gA _ _ _ _ ≤ _
      have h1 := hu (x * 3 + a)
      have h2 := ih y
      have h3 : u (x * 3 + a) + GR N m W u pc k y = gA (gC W pc x) (fun a y => u (x * 3 + a) + GR N m W u pc k y) N (m x) := h
      omega
theorem MS_dec {N : Nat} {m W u : Nat → Nat} {pc : Nat → Nat → Nat} {st t y s : Nat} (h : 0 < MS N m W u pc st (t + 1) y s) : ∃ x a, x < N ∧ a < m x ∧ u (x * 3 + a) ≤ s ∧ 0 < MS N m W u pc st t x (s - u (x * 3 + a)) ∧ 0 < W (x * 3 + a) ∧ 0 < pc (x * 3 + a) y := by
  obtain ⟨x, hx, h1⟩ := sm_pos (f := fun x => sm (m x) (fun a => if u (x * 3 + a) ≤ s then MS N m W u pc st t x (s - u (x * 3 + a)) * W (x * 3 + a) * pc (x * 3 + a) y else 0)) h
  obtain ⟨a, ha, h2⟩ := sm_pos h1
  by_cases c : u (x * 3 + a) ≤ s
  · rw [if_pos c] at h2
    have h3 := Nat.pos_of_mul_pos_right h2
    have h4 := Nat.pos_of_mul_pos_left h2
    exact ⟨x, a, hx, ha, c, Nat.pos_of_mul_pos_right h3, Nat.pos_of_mul_pos_left h3, h4⟩
  · rw [if_neg c] at h2
    exact absurd h2 (Nat.lt_irrefl 0)
theorem MS_inc {N : Nat} {m W u : Nat → Nat} {pc : Nat → Nat → Nat} {st t x a y s : Nat} (hx : x < N) (ha : a < m x) (h : 0 < MS N m W u pc st t x s) (hw : 0 < W (x * 3 + a)) (hp : 0 < pc (x * 3 + a) y) : 0 < MS N m W u pc st (t + 1) y (s + u (x * 3 + a)) := by
  have h1 := le_sm (f := fun x' => sm (m x') (fun a' => if u (x' * 3 + a') ≤ s + u (x * 3 + a) then MS N m W u pc st t x' (s + u (x * 3 + a) - u (x' * 3 + a')) * W (x' * 3 + a') * pc (x' * 3 + a') y else 0)) hx
  have h2 := le_sm (f := fun a' => if u (x * 3 + a') ≤ s + u (x * 3 + a) then MS N m W u pc st t x (s + u (x * 3 + a) - u (x * 3 + a')) * W (x * 3 + a') * pc (x * 3 + a') y else 0) ha
  rw [if_pos (by omega), Nat.add_sub_cancel] at h2
  have h3 : 0 < MS N m W u pc st t x s * W (x * 3 + a) * pc (x * 3 + a) y := Nat.mul_pos (Nat.mul_pos h hw) hp
  exact Nat.lt_of_lt_of_le h3 (Nat.le_trans h2 h1)
theorem MS_GR {N : Nat} {m W u : Nat → Nat} {pc : Nat → Nat → Nat} {st : Nat} : ∀ t k y s, y < N → 0 < MS N m W u pc st t y s → s + GR N m W u pc k y ≤ GR N m W u pc (t + k) st := by
  intro t
  induction t with
  | zero =>
    intro k y s _ h
    have e : MS N m W u pc st 0 y s = if y = st ∧ s = 0 then 1 else 0 := rfl
    rw [e] at h
    by_cases c : y = st ∧ s = 0
    · rw [c.1, c.2, Nat.zero_add, Nat.zero_add]
      exact Nat.le_refl _
    · rw [if_neg c] at h
      exact absurd h (Nat.lt_irrefl 0)
  | succ t ih =>
    intro k y s hy h
    obtain ⟨x, a, hx, ha, hs, h1, hw, hp⟩ := MS_dec h
    have h2 := ih (k + 1) x _ hx h1
    have h3 : u (x * 3 + a) + GR N m W u pc k y ≤ GR N m W u pc (k + 1) x := gA_ge (c := gC W pc x) (f := fun a y => u (x * 3 + a) + GR N m W u pc k y) (m x) a y ha hy (by unfold gC; simp [hw, hp])
    rw [show t + 1 + k = t + (k + 1) by omega]
    omega
theorem MS_top {N : Nat} {m W u : Nat → Nat} {pc : Nat → Nat → Nat} {st H : Nat} (hst : st < N) (hex : ∀ x, x < N → ∃ a y, a < m x ∧ y < N ∧ 0 < W (x * 3 + a) ∧ 0 < pc (x * 3 + a) y) : ∀ t, t ≤ H → ∃ y s, y < N ∧ 0 < MS N m W u pc st t y s ∧ s + GR N m W u pc (H - t) y = GR N m W u pc H st := by
  intro t
  induction t with
  | zero =>
    intro _
    refine ⟨st, 0, hst, ?_, ?_⟩
    · show 0 < if st = st ∧ 0 = 0 then 1 else 0
      rw [if_pos ⟨rfl, rfl⟩]
      decide
    · rw [Nat.sub_zero, Nat.zero_add]
  | succ t ih =>
    intro ht
    obtain ⟨x, s, hx, h1, h2⟩ := ih (by omega)
    obtain ⟨a0, y0, ha0, hy0, hw0, hp0⟩ := hex x hx
    obtain ⟨a, y, ha, hy, hc, e⟩ := gA_att (c := gC W pc x) (f := fun a y => u (x * 3 + a) + GR N m W u pc (H - (t + 1)) y) ha0 hy0 (by unfold gC; simp [hw0, hp0])
    have e2 : GR N m W u pc (H - t) x = u (x * 3 + a) + GR N m W u pc (H - (t + 1)) y := by
      rw [show H - t = H - (t + 1) + 1 by omega]
      exact e.symm
    unfold gC at hc
    simp only [Bool.and_eq_true, decide_eq_true_eq] at hc
    exact ⟨y, s + u (x * 3 + a), hy, MS_inc hx ha h1 hc.1 hc.2, by omega⟩

