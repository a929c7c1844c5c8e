/-- the first time from i on, of d times, at which a row is positive -/
def fT (F : Nat → Int64) : Nat → Nat → Int32
  | 0, _ => -1
  | d + 1, i => if F i ≤ 0 then fT F d (i + 1) else nI i
theorem fT_step {F : Nat → Int64} {H i : Nat} (h : i < H + 1) : fT F (H + 1 - i) i = if F i ≤ 0 then fT F (H + 1 - (i + 1)) (i + 1) else nI i := by
  rw [show H + 1 - i = (H + 1 - (i + 1)) + 1 by omega]
  rfl
