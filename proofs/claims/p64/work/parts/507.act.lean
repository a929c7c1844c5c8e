/-! an act is drawn -/
theorem gain_at : ∀ g, g ≤ 60 → ((0 ≤ nI g - (20 : Int32)) = (20 ≤ g)) ∧ aabs (nI g - (20 : Int32)) = nI (if g < 20 then 20 - g else g - 20) := by
  have h : ∀ g, g < 61 → (decide (0 ≤ nI g - (20 : Int32)) = decide (20 ≤ g)) ∧ aabs (nI g - (20 : Int32)) = nI (if g < 20 then 20 - g else g - 20) := by decide +kernel
  intro g hg
  obtain ⟨h1, h2⟩ := h g (by omega)
  exact ⟨propext (decide_eq_decide.mp h1), h2⟩
def gaT (g : Nat) : List Nat := if g < 20 then WL.getD 15 [] ++ dgs (20 - g) else WL.getD 16 [] ++ dgs (g - 20)
def acT (nb x g f n m : Nat) (u p : Nat → Nat) : List Nat := WL.getD 14 [] ++ dgs x ++ gaT g ++ usT u nb ++ toT (fun j => (f + j) % n) p m
/-- an act of the law's chain, and its text -/
def AS (M : Mem) (n nb x a : Nat) (seg : List Nat) : Prop := ∃ g m f, (g ≤ 60 ∧ gI M (113 + x) a = nI g - (20 : Int32) ∧ gI M (202 + x) a = nI 1) ∧ ((∀ b, b < nb → ∃ u, u ≤ 60 ∧ gI M (128 + 4 * x + a) b = nI u) ∧ ∀ b, nb ≤ b → gI M (128 + 4 * x + a) b = nI 0) ∧ (m ≤ n ∧ f < n) ∧ ((∀ j, j < m → gI M (178 + 4 * x + a) j = nI ((f + j) % n)) ∧ (∀ j, j < m → ∃ v, 1 ≤ v ∧ v ≤ 100 ∧ gI M (153 + 4 * x + a) ((f + j) % n) = nI v) ∧ ∀ y, y < 6 → (∀ j, j < m → (f + j) % n ≠ y) → gI M (153 + 4 * x + a) y = nI 0) ∧ sm m (fun j => pn (gI M (153 + 4 * x + a)) ((f + j) % n)) = 100 ∧ seg = acT nb x g f n m (pn (gI M (128 + 4 * x + a))) (pn (gI M (153 + 4 * x + a)))
/-- what an act leaves alone -/
def frA (x a : Nat) (M M' : Mem) : Prop := frS (fun w => S8 w ∨ w = 113 + x ∨ w = 202 + x ∨ w = 128 + 4 * x + a ∨ w = 153 + 4 * x + a ∨ w = 178 + 4 * x + a) M M' ∧ ∀ j, j ≠ a → gI M' (113 + x) j = gI M (113 + x) j ∧ gI M' (202 + x) j = gI M (202 + x) j
theorem AS.fr {M M' : Mem} {n nb x a : Nat} {seg : List Nat} (h : AS M n nb x a seg) (h1 : gI M' (113 + x) a = gI M (113 + x) a) (h2 : gI M' (202 + x) a = gI M (202 + x) a) (h3 : gI M' (128 + 4 * x + a) = gI M (128 + 4 * x + a)) (h4 : gI M' (153 + 4 * x + a) = gI M (153 + 4 * x + a)) (h5 : gI M' (178 + 4 * x + a) = gI M (178 + 4 * x + a)) : AS M' n nb x a seg := by
  unfold AS
  rw [h1, h2, h3, h4, h5]
  exact h
