/-! takeBest -/
def lX : List Nat := [109, 110, 116, 121, 122]
theorem lX_in {o : Nat} : o ∈ lX ↔ o = 109 ∨ o = 110 ∨ o = 116 ∨ o = 121 ∨ o = 122 := by
  unfold lX
  simp only [List.mem_cons, List.not_mem_nil, or_false]
theorem lX_R {o : Nat} (h : o ∉ lX) : o ∉ lR := fun z => h (by
  rw [lX_in]
  have := lR_in.mp z
  omega)
