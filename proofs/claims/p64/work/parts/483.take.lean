/-! takeBest -/
theorem sL_self (M : Mem) (o k : Nat) : sL M o k (gL M o k) = M := by
  obtain ⟨a, b, c⟩ := M
  show (a, (fun p q => if p = o ∧ q = k then b o k else b p q), c) = (a, b, c)
  have e : (fun p q => if p = o ∧ q = k then b o k else b p q) = b := by
    funext p q
    by_cases h : p = o ∧ q = k
    · rw [if_pos h, h.1, h.2]
    · rw [if_neg h]
  rw [e]
def cnW (W c : Nat → Nat) : Nat → Nat
  | 0 => 0
  | n + 1 => cnW W c n + (if W (n * 3 + c n) = 10 then 0 else 1)
theorem cnW_le {W c : Nat → Nat} : ∀ n, cnW W c n ≤ n
  | 0 => Nat.le_refl _
  | n + 1 => by
    have := cnW_le (W := W) (c := c) n
    show cnW W c n + _ ≤ n + 1
    split <;> omega
theorem bestKt {M M1 : Mem} (f : fr lB9 M M1) : kt M M1 := by
  refine ⟨fun o a b c => f o (fun z => ?_), fun k _ => by rw [f.I (by decide)], fun i _ => by rw [f.I (by decide)], fun j _ => by rw [f.I (by decide)]⟩
  have : ∀ o, o ∈ lB9 → o ∈ scrL ∨ o ∈ [96, 97, 98, 109, 110] := by decide
  rcases this o z with y | y
  · exact a y
  · exact c y
theorem ten_eq {n : Nat} (h : n < 100) : (nI n = (10 : Int32)) = (n = 10) := by
  rw [show (10 : Int32) = nI 10 from rfl, nI_eq (by omega) (by decide)]
