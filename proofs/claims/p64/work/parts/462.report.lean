def dn (n : Nat) : Nat := fi (fun d => decide (n < 10 ^ (d + 1))) 16
theorem dn_ok {n : Nat} (hn : n ≤ 10 ^ 15) : dn n ≤ 15 ∧ n < 10 ^ (dn n + 1) ∧ (dn n = 0 ∨ 10 ^ dn n ≤ n) := by
  have h1 : dn n < 16 := fi_lt (y := 15) (by decide) (decide_eq_true (by have : (10 : Nat) ^ (15 + 1) = 10 ^ 15 * 10 := Nat.pow_succ 10 15; omega))
  refine ⟨by omega, of_decide_eq_true (fi_at (f := fun d => decide (n < 10 ^ (d + 1))) 16 h1), ?_⟩
  by_cases c : dn n = 0
  · exact Or.inl c
  · have h2 := of_decide_eq_false (fi_min (f := fun d => decide (n < 10 ^ (d + 1))) 16 (dn n - 1) (by show dn n - 1 < dn n; omega))
    rw [show dn n - 1 + 1 = dn n by omega] at h2
    exact Or.inr (by omega)
def DG (n : Nat) : List Nat := dgs9 (dn n) n
theorem DG_len {n : Nat} (hn : n ≤ 10 ^ 15) : (DG n).length ≤ 16 := by
  unfold DG
  rw [dgs_len9]
  have := (dn_ok hn).1
  omega
def cm (ds : List Nat) : List Nat := if ds.length = 0 then ds else ds ++ [44]
def ap (ds : List Nat) (x F : Nat) : List Nat := cm ds ++ [48 + x] ++ [58] ++ DG F
theorem cm_len {ds : List Nat} : (cm ds).length ≤ ds.length + 1 := by
  unfold cm
  split
  · omega
  · rw [List.length_append]
    exact Nat.le_refl _
theorem ap_len {ds : List Nat} {x F : Nat} (hF : F ≤ 10 ^ 15) : (ap ds x F).length ≤ ds.length + 19 := by
  have h1 := cm_len (ds := ds)
  have h2 := DG_len hF
  unfold ap
  simp only [List.length_append, List.length_cons, List.length_nil]
  omega
/-- the text of the first n states -/
def RT (c : Nat → Bool) (F : Nat → Nat) : Nat → List Nat
  | 0 => []
  | n + 1 => if c n then ap (RT c F n) n (F n) else RT c F n
theorem RT_len {c : Nat → Bool} {F : Nat → Nat} (hF : ∀ x, F x ≤ 10 ^ 15) : ∀ n, (RT c F n).length ≤ 19 * n := by
  intro n
  induction n with
  | zero => exact Nat.le_refl _
  | succ n ih =>
    show (if c n then ap (RT c F n) n (F n) else RT c F n).length ≤ _
    split
    · have := ap_len (ds := RT c F n) (x := n) (hF n)
      omega
    · omega
/-- the bits of a set -/
def bs (c : Nat → Bool) : Nat → Nat
  | 0 => 0
  | n + 1 => if c n then bs c n + 2 ^ n else bs c n
theorem bs_lt {c : Nat → Bool} : ∀ n, bs c n < 2 ^ n := by
  intro n
  induction n with
  | zero => exact Nat.lt_succ_self 0
  | succ n ih =>
    show (if c n then bs c n + 2 ^ n else bs c n) < 2 ^ (n + 1)
    rw [Nat.pow_succ]
    split <;> omega
theorem or6 : ∀ n, n < 6 → ∀ a, a < 2 ^ n → nI a ||| (nI 1 <<< (nI n &&& 31)) = nI (a + 2 ^ n) := by decide +kernel
theorem brk_bs {c : Nat → Bool} : ∀ n, n ≤ 6 → brk c n = nI (bs c n) := by
  intro n
  induction n with
  | zero => intro _; rfl
  | succ n ih =>
    intro h
    show (if c n then brk c n ||| (nI 1 <<< (nI n &&& 31)) else brk c n) = nI (if c n then bs c n + 2 ^ n else bs c n)
    rw [ih (by omega)]
    by_cases g : c n = true
    · rw [if_pos g, if_pos g, or6 n (by omega) _ (bs_lt n)]
    · rw [if_neg g, if_neg g]
theorem bit_top : ∀ n, n < 6 → ∀ a, a < 2 ^ n → (a + 2 ^ n) / 2 ^ n % 2 = 1 ∧ ∀ x, x < n → (a + 2 ^ n) / 2 ^ x % 2 = a / 2 ^ x % 2 := by decide +kernel
theorem bs_bit {c : Nat → Bool} : ∀ n, n ≤ 6 → ∀ x, x < n → bs c n / 2 ^ x % 2 = if c x then 1 else 0 := by
  intro n
  induction n with
  | zero => intro _ x h; omega
  | succ n ih =>
    intro h x hx
    have hb := bs_lt (c := c) n
    show (if c n then bs c n + 2 ^ n else bs c n) / 2 ^ x % 2 = _
    by_cases g : c n = true
    · rw [if_pos g]
      by_cases d : x = n
      · rw [d, (bit_top n (by omega) _ hb).1, if_pos g]
      · rw [(bit_top n (by omega) _ hb).2 x (by omega)]
        exact ih (by omega) x (by omega)
    · rw [if_neg g]
      by_cases d : x = n
      · rw [d, if_neg g, Nat.div_eq_of_lt hb]
      · exact ih (by omega) x (by omega)
theorem brk_bit {c : Nat → Bool} {n x : Nat} (hn : n ≤ 6) (hx : x < n) : (((brk c n >>> (nI x &&& 31)) &&& nI 1) = nI 0) = (c x = false) := by
  have hb := bs_lt (c := c) n
  have h64 : 2 ^ n ≤ 64 := Nat.pow_le_pow_right (n := 2) (by decide) hn
  rw [brk_bs n hn, bit6y (by omega) (by omega), bs_bit n hn x hx]
  cases c x <;> simp
theorem DG_6 : ∀ x, x < 6 → DG x = [48 + x] := by decide +kernel
theorem TX.fr {M M' : Mem} {ds : List Nat} {l : List Nat} (h : TX M ds) (hf : fr l M M') (h1 : 105 ∉ l) (h2 : 106 ∉ l) : TX M' ds := by
  unfold TX
  rw [hf.I h1, hf.I h2]
  exact h
