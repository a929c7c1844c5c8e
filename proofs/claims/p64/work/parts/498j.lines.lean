/-! a line, the lines -/
theorem mxq2 : mxq 2 = 5 := by decide
theorem mxq1 : mxq 1 = 3 := by decide
theorem semi {b : Nat → Nat} {n e : Nat} (he : e ≤ n) (h : tK b n e = 4) : e < tE b n e := by
  have a := (tA_ok (b := b) he).1
  unfold tK at h
  unfold tE
  by_cases c1 : n ≤ tA b n e
  · rw [if_pos c1] at h
    exact absurd h (by decide)
  · rw [if_neg c1] at h ⊢
    by_cases c2 : isL (b (tA b n e)) = true
    · rw [if_pos c2] at h
      split at h <;> exact absurd h (by decide)
    · rw [if_neg c2] at h ⊢
      by_cases c3 : isD (b (tA b n e)) = true
      · rw [if_pos c3] at h
        split at h <;> exact absurd h (by decide)
      · rw [if_neg c3]
        omega
