/-! a line, the lines -/
theorem VQ.of2 {Q Q' : Nat → Int32} (h : VQ Q) (hW : VW Q') (he : ∀ i, 8 ≤ i → Q' i = Q i) (h0 : Q' 0 = Q 0) (h3 : Q' 3 = Q 3) (h2 : pn Q' 2 < cN Q) : VQ Q' := by
  obtain ⟨_, ⟨c1, c2, c3⟩, hR, hL⟩ := h
  have e0 : cN Q' = cN Q := pn_c h0
  have eM : ∀ y, y < 6 → cM Q' y = cM Q y := fun y hy => by
    unfold cM
    rw [if_pos hy, if_pos hy]
    exact pn_c (he _ (by omega))
  refine ⟨hW, ⟨by rw [e0]; exact c1, by rw [e0]; exact h2, by rw [pn_c h3]; exact c3⟩, fun y hy a ha => ?_, fun y hy => ?_⟩
  · rw [eM y hy]
    obtain ⟨h1, h2⟩ := hR y hy a ha
    exact ⟨fun z => (h1 z).of h0 (fun i hi => he i (by omega)), fun z => (h2 z).of (fun i hi => he i (by omega)) (fun i hi => he i (by omega))⟩
  · have kp : ∀ i, 8 ≤ i → pn Q' i = pn Q i := fun i hi => pn_c (he i hi)
    rcases hL y hy with ⟨r4, r5, r6⟩ | ⟨r4, r5⟩
    · exact Or.inl ⟨by rw [he _ (by omega)]; exact r4, by rw [kp _ (by omega), kp _ (by omega), kp _ (by omega)]; exact r5, fun a ha hm => by rw [kp _ (by omega)]; exact r6 a ha (by rw [← eM y hy]; exact hm)⟩
    · exact Or.inr ⟨by rw [he _ (by omega)]; exact r4, fun a ha => by rw [kp _ (by omega)]; exact r5 a ha⟩
theorem mxq2 : mxq 2 = 5 := by decide
theorem mxq1 : mxq 1 = 3 := by decide
theorem semi {b : Nat → Nat} {n e : Nat} (he : e ≤ n) (h : tK b n e = 4) : e < tE b n e := by
  have a := (tA_ok (b := b) he).1
  unfold tK at h
  unfold tE
  by_cases c1 : n ≤ tA b n e
  · rw [if_pos c1] at h
    exact absurd h (by decide)
  · rw [if_neg c1] at h ⊢
    by_cases c2 : isL (b (tA b n e)) = true
    · rw [if_pos c2] at h
      split at h <;> exact absurd h (by decide)
    · rw [if_neg c2] at h ⊢
      by_cases c3 : isD (b (tA b n e)) = true
      · rw [if_pos c3] at h
        split at h <;> exact absurd h (by decide)
      · rw [if_neg c3]
        omega
