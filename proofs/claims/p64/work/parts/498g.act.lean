/-! the act line -/
theorem act_VQ {Q Q4 : Nat → Int32} {x a : Nat} (hV : VQ Q) (hx : x < 6) (ha : a < 3) (hM : cM Q x = a) (hW : VW Q4) (hA : AP Q4 (x * 3 + a) 100) (h8 : pn Q4 (8 + x) = a + 1) (he : ∀ i, i ≠ 8 + x → i ≠ 14 + (x * 3 + a) → ¬ (32 + (x * 3 + a) * 3 ≤ i ∧ i < 35 + (x * 3 + a) * 3) → ¬ (86 + (x * 3 + a) * 6 ≤ i ∧ i < 92 + (x * 3 + a) * 6) → ¬ (212 + (x * 3 + a) * 6 ≤ i ∧ i < 218 + (x * 3 + a) * 6) → i ≠ 194 + (x * 3 + a) → Q4 i = Q i) : VQ Q4 := by
  obtain ⟨_, ⟨c1, c2, c3⟩, hR, hL⟩ := hV
  have e0 : cN Q4 = cN Q := pn_c (he 0 (by omega) (by omega) (by omega) (by omega) (by omega) (by omega))
  have eM : ∀ y, y < 6 → cM Q4 y = if y = x then a + 1 else cM Q y := fun y hy => by
    unfold cM
    rw [if_pos hy, if_pos hy]
    by_cases c : y = x
    · rw [if_pos c, c, h8]
    · rw [if_neg c]
      exact pn_c (he _ (by omega) (by omega) (by omega) (by omega) (by omega) (by omega))
  refine ⟨hW, ⟨by rw [e0]; exact c1, by rw [e0, pn_c (he 2 (by omega) (by omega) (by omega) (by omega) (by omega) (by omega))]; exact c2, by rw [pn_c (he 3 (by omega) (by omega) (by omega) (by omega) (by omega) (by omega))]; exact c3⟩, fun y hy a' ha' => ?_, fun y hy => ?_⟩
  · rw [eM y hy]
    obtain ⟨h1, h2⟩ := hR y hy a' ha'
    by_cases c : y * 3 + a' = x * 3 + a
    · have cy : y = x := by omega
      have ca : a' = a := by omega
      rw [if_pos cy, cy, ca]
      exact ⟨fun _ => hA, fun z => absurd z (by omega)⟩
    · have k0 : Q4 0 = Q 0 := he 0 (by omega) (by omega) (by omega) (by omega) (by omega) (by omega)
      have k1 : ∀ i, (86 + (y * 3 + a') * 6 ≤ i ∧ i < 92 + (y * 3 + a') * 6) ∨ (212 + (y * 3 + a') * 6 ≤ i ∧ i < 218 + (y * 3 + a') * 6) ∨ i = 194 + (y * 3 + a') → Q4 i = Q i := fun i hi => he i (by omega) (by omega) (by omega) (by omega) (by omega) (by omega)
      have k2 : ∀ i, 32 + (y * 3 + a') * 3 ≤ i ∧ i < 35 + (y * 3 + a') * 3 → Q4 i = Q i := fun i hi => he i (by omega) (by omega) (by omega) (by omega) (by omega) (by omega)
      by_cases cy : y = x
      · rw [if_pos cy]
        have hMy : cM Q y = a := by rw [cy]; exact hM
        exact ⟨fun z => (h1 (by omega)).of k0 k1, fun z => (h2 (by omega)).of k1 k2⟩
      · rw [if_neg cy]
        exact ⟨fun z => (h1 z).of k0 k1, fun z => (h2 z).of k1 k2⟩
  · have k : ∀ i, 320 ≤ i → Q4 i = Q i := fun i hi => he i (by omega) (by omega) (by omega) (by omega) (by omega) (by omega)
    have kp : ∀ i, 320 ≤ i → pn Q4 i = pn Q i := fun i hi => pn_c (k i hi)
    have le : cM Q y ≤ cM Q4 y := by
      rw [eM y hy]
      by_cases cy : y = x
      · rw [if_pos cy, cy, hM]
        omega
      · rw [if_neg cy]
        exact Nat.le_refl _
    rcases hL y hy with ⟨r1, r2, r3⟩ | ⟨r1, r2⟩
    · exact Or.inl ⟨by rw [k _ (by omega)]; exact r1, by rw [kp _ (by omega), kp _ (by omega), kp _ (by omega)]; exact r2, fun b hb hm => by rw [kp _ (by omega)]; exact r3 b hb (by omega)⟩
    · exact Or.inr ⟨by rw [k _ (by omega)]; exact r1, fun b hb => by rw [kp _ (by omega)]; exact r2 b hb⟩
