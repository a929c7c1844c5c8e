/-! walk -/
def wkS (s : Nat) : Nat → Nat
  | 0 => s
  | n + 1 => sd (sd (wkS s n))
def wkX (P : Nat → Int32) (W : Nat → Nat) (s x : Nat) : Nat → Nat
  | 0 => x
  | n + 1 => stX P W (wkS s n) (wkX P W s x n)
def wkA (P : Nat → Int32) (W : Nat → Nat) (s x n : Nat) : Nat := stA P W (wkS s n) (wkX P W s x n)
theorem wkS_lt {s : Nat} (h : s < 30011) : ∀ n, wkS s n < 30011
  | 0 => h
  | _ + 1 => sd_lt
/-- the class's walk at t -/
def WKC (P : Nat → Int32) (W : Nat → Nat) (s x t : Nat) (M M' : Mem) : Prop := fr [14, 15, 104] M M' ∧ gI M' 104 1 = nI (wkS s t) ∧ gI M' 104 2 = nI (wkX P W s x t) ∧ (∀ i, gI M' 14 i = if i ≤ t then nI (wkX P W s x i) else gI M 14 i) ∧ ∀ i, gI M' 15 i = if i < t then nI (wkA P W s x i) else gI M 15 i
/-- the reference's walk at t -/
def WKR (P : Nat → Int32) (W : Nat → Nat) (s x H t : Nat) (M M' : Mem) : Prop := fr [109] M M' ∧ (∀ i, i ≠ 2 → i ≠ 3 → (i < 43 ∨ 54 ≤ i) → gI M' 109 i = gI M 109 i) ∧ gI M' 109 2 = nI (wkS s t) ∧ gI M' 109 3 = nI H ∧ (∀ i, i < 6 → gI M' 109 (43 + i) = if i ≤ t then nI (wkX P W s x i) else gI M 109 (43 + i)) ∧ ∀ i, i < 5 → gI M' 109 (49 + i) = if i < t then nI (wkA P W s x i) else gI M 109 (49 + i)
theorem WK.v6 {P S : Nat → Int32} {n : Nat} (h : WK P S n) : V6 P S := by
  obtain ⟨h1, h2, h3, h4, h5⟩ := h
  unfold V6
  rw [pn_n h1 (by omega)]
  exact Or.inr ⟨h1, h2, h3, h4, h5⟩
