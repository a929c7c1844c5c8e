theorem VP.lead {P : Nat → Int32} {W : Nat → Nat} (hV : VP P) (hK : WOK P W) : ∀ x, x < cN P → ∃ a y, a < cM P x ∧ y < cN P ∧ 0 < W (x * 3 + a) ∧ 0 < cP P (x * 3 + a) y := by
  intro x hx
  obtain ⟨a, ha, hw⟩ := sm_pos (n := cM P x) (f := fun a => W (x * 3 + a)) (by rw [hK.2 x hx]; decide)
  obtain ⟨y, hy, hp⟩ := sm_pos (n := cN P) (f := cP P (x * 3 + a)) (by rw [(hV.2.2.2.2.2.2.2 x hx a ha).1]; decide)
  exact ⟨a, y, ha, hy, hw, hp⟩
