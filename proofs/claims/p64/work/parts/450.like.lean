theorem mx_le {n : Nat} {f : Nat → Int64} : (if f n ≤ mx n f then mx n f else f n) = mx (n + 1) f := by
  show _ = if f n < mx n f then mx n f else f n
  by_cases c : f n < mx n f
  · rw [if_pos c, if_pos (Int64.le_of_lt c)]
  · rw [if_neg c]
    by_cases d : f n ≤ mx n f
    · rw [if_pos d]
      exact (Int64.le_antisymm d (Int64.not_lt.mp c)).symm
    · rw [if_neg d]
theorem nI_nlt0 {a : Nat} (h : a < 2 ^ 31) : ¬ nI a < 0 := by
  rw [lt0, nI_toInt h]
  omega
theorem dn_step {H k : Nat} : nI H - nI k + (-1 : Int32) = nI H - nI (k + 1) := by
  rw [show nI (k + 1) = nI k + nI 1 from (nI_add k 1).symm, ← i1]
  grind
theorem dn_neg {H : Nat} : nI H - nI (H + 1) < 0 := by
  rw [show nI (H + 1) = nI H + nI 1 from (nI_add H 1).symm, ← i1, show nI H - (nI H + (1 : Int32)) = -1 by grind]
  decide
