/-! layer B of the law: the draws -/
theorem nxV_nI {LX : Nat} {xs : Nat → Int32} {M : Mem} : ∃ w : Nat, w < 2 ^ 31 ∧ nxV LX xs M = nI w := by
  unfold nxV
  split
  · exact ⟨0, by decide, rfl⟩
  · exact pk_andE _ 31 (by decide)
theorem next_ok {LX k a b : Nat} {xs : Nat → Int32} {M : Mem} (hk : gI M 108 1 = nI k) (hk2 : k < 1000000) (hab : a ≤ b) (hb : b < 1000000) (hL : LX < 2147483647) : ∃ v : Nat, (a ≤ v ∧ v ≤ b) ∧ f_X13_next LX xs M (nI a) (nI b) = some (nI v, sI M 108 1 (nI (k + 1))) := by
  obtain ⟨w, hw, ew⟩ := nxV_nI (LX := LX) (xs := xs) (M := M)
  have e1 : nI b - nI a + 1 = nI (b - a + 1) := by rw [pk_sub hab, nI_1]
  have hm : w % (b - a + 1) < b - a + 1 := Nat.mod_lt _ (by omega)
  refine ⟨a + w % (b - a + 1), ⟨by omega, by omega⟩, ?_⟩
  unfold f_X13_next
  rw [e1, hk, if_pos ⟨nI_pos (by omega), if_neg (nI_ne0 (by omega) (by omega)), hL⟩, ew, pk_rem hw (by omega) (by omega), nI_add, nxM, hk, nI_1]
