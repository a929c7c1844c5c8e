/-! pure sets: the order -/
/-- the number of a set, the last state's action the least -/
def vl (m c : Nat → Nat) : Nat → Nat
  | 0 => 0
  | n + 1 => vl m c n * m n + c n
theorem vl_congr {m c c' : Nat → Nat} : ∀ n, (∀ y, y < n → c' y = c y) → vl m c' n = vl m c n
  | 0, _ => rfl
  | n + 1, h => by
    show vl m c' n * m n + c' n = vl m c n * m n + c n
    rw [vl_congr n (fun y hy => h y (by omega)), h n (by omega)]
theorem vl_lt {m c : Nat → Nat} : ∀ n, (∀ y, y < n → c y < m y ∧ m y ≤ 3) → vl m c n < 3 ^ n
  | 0, _ => by
    show 0 < 1
    decide
  | n + 1, h => by
    have ih := vl_lt n (fun y hy => h y (by omega))
    obtain ⟨h1, h2⟩ := h n (by omega)
    show vl m c n * m n + c n < 3 ^ (n + 1)
    have h3 : vl m c n * m n ≤ vl m c n * 3 := Nat.mul_le_mul_left _ h2
    rw [Nat.pow_succ]
    omega
/-- what odo finds -/
def nx (c : Nat → Nat) (x : Nat) : Nat → Nat := fun y => if y = x then c x + 1 else if x < y then 0 else c y
theorem odo_some {m c c' : Nat → Nat} : ∀ n, odo m c n = some c' → ∃ x, x < n ∧ c' = nx c x ∧ c x + 1 < m x ∧ ∀ y, x < y → y < n → m y ≤ c y + 1
  | 0, h => absurd h (by simp [odo])
  | n + 1, h => by
    unfold odo at h
    by_cases g : c n + 1 < m n
    · rw [if_pos g] at h
      refine ⟨n, by omega, ?_, g, fun y h1 h2 => by omega⟩
      exact (Option.some.inj h).symm
    · rw [if_neg g] at h
      obtain ⟨x, h1, h2, h3, h4⟩ := odo_some n h
      refine ⟨x, by omega, h2, h3, fun y h5 h6 => ?_⟩
      by_cases e : y = n
      · rw [e]; omega
      · exact h4 y h5 (by omega)
theorem odo_none {m c : Nat → Nat} : ∀ n, odo m c n = none → ∀ y, y < n → m y ≤ c y + 1
  | 0, _, y, hy => absurd hy (by omega)
  | n + 1, h, y, hy => by
    unfold odo at h
    by_cases g : c n + 1 < m n
    · rw [if_pos g] at h
      exact absurd h (by simp)
    · rw [if_neg g] at h
      by_cases e : y = n
      · rw [e]; omega
      · exact odo_none n h y (by omega)
theorem vl_nx {m c : Nat → Nat} {x : Nat} : ∀ n, x < n → (∀ y, x < y → y < n → m y = c y + 1) → vl m (nx c x) n = vl m c n + 1
  | 0, h, _ => absurd h (by omega)
  | n + 1, h, h2 => by
    show vl m (nx c x) n * m n + nx c x n = vl m c n * m n + c n + 1
    by_cases e : n = x
    · subst e
      rw [vl_congr n (c := c) (fun y hy => by unfold nx; rw [if_neg (by omega), if_neg (by omega)])]
      unfold nx
      rw [if_pos rfl]
      omega
    · rw [vl_nx n (by omega) (fun y a b => h2 y a (by omega))]
      unfold nx
      rw [if_neg e, if_pos (by omega), h2 n (by omega) (by omega), Nat.add_mul, Nat.one_mul]
      omega
/-- a choice -/
def CHo (P : Nat → Int32) (c : Nat → Nat) : Prop := ∀ y, y < cN P → c y < cM P y
theorem cho_ok {P : Nat → Int32} (hV : VP P) : ∀ k c, cho P k = some c → CHo P c ∧ vl (cM P) c (cN P) = k
  | 0, c, h => by
    have e : c = fun _ => 0 := (Option.some.inj h).symm
    subst e
    refine ⟨fun y hy => hV.2.2.2.1 y hy, ?_⟩
    have : ∀ n, vl (cM P) (fun _ => 0) n = 0 := fun n => by
      induction n with
      | zero => rfl
      | succ n ih =>
        show vl (cM P) (fun _ => 0) n * cM P n + 0 = 0
        rw [ih, Nat.zero_mul]
    exact this _
  | k + 1, c', h => by
    unfold cho at h
    cases g : cho P k with
    | none => rw [g] at h; exact absurd h (by simp)
    | some c =>
      rw [g] at h
      obtain ⟨h1, h2⟩ := cho_ok hV k c g
      obtain ⟨x, h3, h4, h5, h6⟩ := odo_some _ (show odo (cM P) c (cN P) = some c' from h)
      subst h4
      refine ⟨fun y hy => ?_, ?_⟩
      · have := hV.2.2.2.1 y hy
        have := h1 y hy
        unfold nx
        by_cases e : y = x
        · rw [if_pos e, e]; exact h5
        · rw [if_neg e]
          by_cases e2 : x < y
          · rw [if_pos e2]; omega
          · rw [if_neg e2]; exact this
      · rw [vl_nx _ h3 (fun y a b => by
          have := h1 y b
          have := h6 y a b
          omega), h2]
theorem cho_lt {P : Nat → Int32} (hV : VP P) {k : Nat} {c : Nat → Nat} (h : cho P k = some c) : k < 729 := by
  obtain ⟨h1, h2⟩ := cho_ok hV k c h
  have h3 := vl_lt (m := cM P) (c := c) (cN P) (fun y hy => ⟨h1 y hy, hV.sz.2.1 y⟩)
  have h4 : 3 ^ cN P ≤ 3 ^ 6 := Nat.pow_le_pow_right (by decide) hV.2.1.2.1
  have e : (3 : Nat) ^ 6 = 729 := by decide
  omega
theorem cho_next {P : Nat → Int32} {k : Nat} {c : Nat → Nat} (h : cho P k = some c) : cho P (k + 1) = odo (cM P) c (cN P) := by
  show (match cho P k with | some c => odo (cM P) c (cN P) | none => none) = _
  rw [h]
/-- the number of the sets -/
theorem cho_end {P : Nat → Int32} (hV : VP P) : ∃ K, 1 ≤ K ∧ K ≤ 729 ∧ (∀ k, k < K → ∃ c, cho P k = some c) ∧ cho P K = none := by
  have key : ∀ d k, k + d = 730 → (∀ i, i < k → ∃ c, cho P i = some c) → ∃ K, K ≤ 729 ∧ (∀ k, k < K → ∃ c, cho P k = some c) ∧ cho P K = none := by
    intro d
    induction d with
    | zero =>
      intro k hk h
      obtain ⟨c, hc⟩ := h 729 (by omega)
      exact absurd (cho_lt hV hc) (by omega)
    | succ d ih =>
      intro k hk h
      cases g : cho P k with
      | none => exact ⟨k, by omega, h, g⟩
      | some c =>
        refine ih (k + 1) (by omega) (fun i hi => ?_)
        by_cases e : i = k
        · rw [e]; exact ⟨c, g⟩
        · exact h i (by omega)
  obtain ⟨K, h1, h2, h3⟩ := key 730 0 (by omega) (fun i hi => absurd hi (by omega))
  refine ⟨K, ?_, h1, h2, h3⟩
  cases K with
  | zero => exact absurd h3 (by simp [cho])
  | succ K => omega
/-! the two moves -/
theorem below0 {n : Nat} (hn : n < 2 ^ 31) : (nI n - (1 : Int32) < 0) = (n = 0) := by
  rw [Int32.lt_iff_toInt_lt, Int32.toInt_sub, nI_toInt hn]
  have e1 : (1 : Int32).toInt = 1 := by decide
  have e0 : (0 : Int32).toInt = 0 := by decide
  rw [e1, e0, Int.bmod_eq_of_le (by omega) (by omega)]
  exact propext ⟨fun h => by omega, fun h => by omega⟩
theorem nI_m1 {n : Nat} : nI (n + 1) - (1 : Int32) = nI n := by
  rw [show (1 : Int32) = nI 1 from rfl, nI_sub (by omega), Nat.add_sub_cancel]
theorem nI_p1 {n : Nat} : nI n + (-1 : Int32) = nI n - (1 : Int32) := by
  rw [Int32.sub_eq_add_neg]
theorem nI_p1' {n : Nat} : nI n + (-nI 1 : Int32) = nI n - (1 : Int32) := nI_p1
/-- class -/
theorem moveL {Z : Nat} {P : Nat → Int32} (hm : ∀ y, cM P y ≤ 3) {c : Nat → Nat} (kk : Int32 → Mem → Option (Int32 × Mem)) : ∀ n f M, n ≤ 6 → n < f → (∀ y, y < 6 → gI M 4 y = nI (cM P y)) → (∀ y, y < n → gI M 99 y = nI (c y) ∧ c y ≤ 3) → (∀ y, n ≤ y → y < 6 → gI M 99 y = nI 0) →
    (match odo (cM P) c n with
      | some c' => ∃ x M', x < n ∧ c' = nx c x ∧ f_X5_moveOn_L10 Z kk f (nI n - 1) M = kk (nI x) M' ∧ fr [99] M M' ∧ gI M' 99 x = nI (c x) ∧ ∀ y, y < 6 → y ≠ x → gI M' 99 y = nI (c' y)
      | none => ∃ M', f_X5_moveOn_L10 Z kk f (nI n - 1) M = some (0, M') ∧ fr [99] M M')
  | 0, f, M, _, hf, _, _, _ => by
    obtain ⟨f, rfl⟩ : ∃ g, f = g + 1 := ⟨f - 1, by omega⟩
    refine ⟨M, ?_, fr.rfl⟩
    rw [f_X5_moveOn_L10, if_pos (by rw [below0 (by decide)])]
  | n + 1, f, M, hn, hf, h4, h9, h0 => by
    obtain ⟨f, rfl⟩ : ∃ g, f = g + 1 := ⟨f - 1, by omega⟩
    obtain ⟨a1, a2⟩ := h9 n (by omega)
    have m3 := hm n
    rw [nI_m1, f_X5_moveOn_L10, if_neg (by rw [Int32.lt_iff_toInt_lt, nI_toInt (by omega), Int32.toInt_zero]; omega), rdI_n (by omega) (by decide), a1, rdI_n (by omega) (by decide), h4 n (by omega), i1, nI_add]
    unfold odo
    by_cases g : c n + 1 < cM P n
    · rw [if_pos g, if_neg (by rw [nI_ile (by omega) (by omega)]; omega)]
      refine ⟨n, M, by omega, rfl, rfl, fr.rfl, a1, fun y hy hyn => ?_⟩
      show gI M 99 y = nI (if y = n then c n + 1 else if n < y then 0 else c y)
      rw [if_neg hyn]
      by_cases e : n < y
      · rw [if_pos e]
        exact h0 y (by omega) hy
      · rw [if_neg e]
        exact (h9 y (by omega)).1
    · rw [if_neg g, if_pos (by rw [nI_ile (by omega) (by omega)]; omega), wrI_n (by omega) (by decide), nI_p1']
      have f9 : fr [99] M (sI M 99 n 0) := fr_sI fr.rfl (by decide)
      have ih := moveL (Z := Z) hm (c := c) kk n f (sI M 99 n 0) (by omega) (by omega) (fun y hy => by rw [f9.I (by decide)]; exact h4 y hy) (fun y hy => by
        rw [gI_sI, if_neg (fun z => absurd z.2 (by omega))]
        exact h9 y (by omega)) (fun y h1 h2 => by
        rw [gI_sI]
        by_cases e : y = n
        · rw [if_pos ⟨rfl, e⟩]
          rfl
        · rw [if_neg (fun z => e z.2)]
          exact h0 y (by omega) h2)
      cases q : odo (cM P) c n with
      | none =>
        rw [q] at ih
        obtain ⟨M', b1, b2⟩ := ih
        exact ⟨M', b1, f9.trans b2⟩
      | some c' =>
        rw [q] at ih
        obtain ⟨x, M', b0, b1, b2, b3, b4, b5⟩ := ih
        exact ⟨x, M', by omega, b1, b2, f9.trans b3, b4, b5⟩

