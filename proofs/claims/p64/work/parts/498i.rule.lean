/-! the rule line -/
theorem VQ.of {Q Q' : Nat → Int32} {x : Nat} (h : VQ Q) (hx : x < 6) (hW : VW Q') (he : ∀ i, i < 320 → Q' i = Q i) (hy : ∀ y, y < 6 → y ≠ x → RuleOK Q' y) (hr : RuleOK Q' x) : VQ Q' := by
  obtain ⟨_, ⟨c1, c2, c3⟩, hR, hL⟩ := h
  have e0 : cN Q' = cN Q := pn_c (he 0 (by decide))
  have eM : ∀ y, y < 6 → cM Q' y = cM Q y := fun y hy => by
    unfold cM
    rw [if_pos hy, if_pos hy]
    exact pn_c (he _ (by omega))
  refine ⟨hW, ⟨by rw [e0]; exact c1, by rw [e0, pn_c (he 2 (by decide))]; exact c2, by rw [pn_c (he 3 (by decide))]; exact c3⟩, fun y hy a ha => ?_, fun y hy' => ?_⟩
  · rw [eM y hy]
    obtain ⟨h1, h2⟩ := hR y hy a ha
    exact ⟨fun z => (h1 z).of (he 0 (by decide)) (fun i hi => he i (by omega)), fun z => (h2 z).of (fun i hi => he i (by omega)) (fun i hi => he i (by omega))⟩
  · by_cases c : y = x
    · rw [c]
      exact hr
    · exact hy y hy' c
