/-! the two parsers, together -/
def fQ2 (M M' : Mem) : Prop := fr [108, 113, 115] M M' ∧ ∀ k, k ∉ kQ → k ≠ 12 → gI M' 108 k = gI M 108 k
theorem VW.zero {Q : Nat → Int32} (h : ∀ i, i < 344 → Q i = nI 0) : VW Q := by
  refine ⟨fun i hi _ => ?_, fun r hr => ?_⟩
  · rw [h i hi, pn_n (h i hi) (by decide)]
    exact ⟨rfl, Nat.zero_le _⟩
  · rw [h _ (by omega), nI_toInt (by decide)]
    decide
theorem VQ.head {Q Q' : Nat → Int32} {N H : Nat} (h : ∀ i, i < 344 → Q i = nI 0) (hW : VW Q') (he : ∀ i, i ≠ 0 → i ≠ 3 → i ≠ 4 → Q' i = Q i) (h0 : Q' 0 = nI N) (hN : 1 ≤ N ∧ N ≤ 6) (h3 : Q' 3 = nI H) (hH : 1 ≤ H ∧ H ≤ 5) : VQ Q' := by
  have z : ∀ i, i < 344 → i ≠ 0 → i ≠ 3 → i ≠ 4 → Q' i = nI 0 := fun i hi a b c => (he i a b c).trans (h i hi)
  have zp : ∀ i, i < 344 → i ≠ 0 → i ≠ 3 → i ≠ 4 → pn Q' i = 0 := fun i hi a b c => pn_n (z i hi a b c) (by decide)
  have eN : cN Q' = N := pn_n h0 (by omega)
  have eM : ∀ x, x < 6 → cM Q' x = 0 := fun x hx => by
    unfold cM
    rw [if_pos hx]
    exact zp _ (by omega) (by omega) (by omega) (by omega)
  refine ⟨hW, ⟨by rw [eN]; exact hN.1, by rw [eN, zp 2 (by decide) (by decide) (by decide) (by decide)]; omega, by rw [pn_n h3 (by omega)]; exact hH.1⟩, fun x hx a ha => ?_, fun x hx => Or.inr ⟨z _ (by omega) (by omega) (by omega) (by omega), fun a ha => zp _ (by omega) (by omega) (by omega) (by omega)⟩⟩
  rw [eM x hx]
  refine ⟨fun z => absurd z (by omega), fun _ => ⟨?_, fun b hb => zp _ (by omega) (by omega) (by omega) (by omega), fun y => ?_⟩⟩
  · unfold cT
    rw [if_pos (by omega)]
    exact zp _ (by omega) (by omega) (by omega) (by omega)
  · by_cases c : y < 6
    · rw [cP_eq (by omega) c]
      exact zp _ (by omega) (by omega) (by omega) (by omega)
    · exact cP_hi (by omega)
