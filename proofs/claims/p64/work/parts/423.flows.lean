/-- the settings in the reference: start, horizon, weights -/
def SR (M : Mem) (st H : Nat) (W : Nat → Nat) : Prop := gI M 109 0 = nI st ∧ gI M 109 1 = nI H ∧ ∀ r, r < 18 → gI M 109 (4 + r) = nI (W r)
theorem ChR.fr {l : List Nat} {M M' : Mem} {N : Nat} {m : Nat → Nat} {pc : Nat → Nat → Nat} (h : ChR M N m pc) (hf : fr l M M') (h3 : 112 ∉ l) : ChR M' N m pc := by
  unfold ChR
  rw [hf.I h3]
  exact h
theorem SR.fr {l : List Nat} {M M' : Mem} {st H : Nat} {W : Nat → Nat} (h : SR M st H W) (hf : fr l M M') (h3 : 109 ∉ l) : SR M' st H W := by
  unfold SR
  rw [hf.I h3]
  exact h
