theorem ltopI {n : Nat} (h : n < 2 ^ 31) : (nI n - (1 : Int32)).toInt = (n : Int) - 1 := by
  rw [← Int32.toInt_toInt64]
  exact ltopn h
theorem brk_if {c : Nat → Bool} {n : Nat} {X : Prop} [Decidable X] (h : X ↔ c n = false) : (if X then brk c n else brk c n ||| (nI 1 <<< (nI n &&& 31))) = brk c (n + 1) := by
  show _ = if c n then _ else _
  by_cases g : c n = false
  · rw [if_pos (h.mpr g), g]
    rfl
  · rw [if_neg (fun z => g (h.mp z))]
    simp only [Bool.not_eq_false] at g
    rw [g]
    rfl
/-- the states that a run can be in at a time -/
def rSet (P S : Nat → Int32) (t : Nat) (x : Nat) : Bool := decide (¬ fTab P S t x ≤ 0)
theorem rSet_f {P S : Nat → Int32} {t x : Nat} : fTab P S t x ≤ 0 ↔ rSet P S t x = false := by
  unfold rSet
  rw [decide_eq_false_iff_not, Classical.not_not]
