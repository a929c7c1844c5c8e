/-! load, both sides -/
theorem CQ0.tr {Q P : Nat → Int32} {M M' : Mem} (h : CQ0 Q M) (hT : ∀ r, r < 18 → cT Q r ≤ 6) (e : ∀ o, 21 ≤ o → o ≤ 34 → gI M' o = gI M o) (he : ∀ i, i < 344 → P i = Q i) : CQ0 P M' := by
  obtain ⟨h1, h2, h3, h4, q, q1, q2, q3⟩ := h
  refine ⟨(h1.congr hT he).at (fun i hi => e _ (by omega) (by omega)), by rw [e 29 (by decide) (by decide), he 2 (by decide), he 3 (by decide), he 4 (by decide)]; exact h2, fun b hb => by rw [e 32 (by decide) (by decide), he _ (by omega)]; exact h3 b hb, by rw [e 31 (by decide) (by decide)]; exact h4, q, q1, by rw [e 21 (by decide) (by decide)]; exact q2, fun x hx => by rw [he _ (by omega)]; exact q3 x hx⟩
theorem CQW.tr {Q P : Nat → Int32} {M M' : Mem} (h : CQW Q M) (e : gI M' 30 = gI M 30) (he : ∀ i, i < 344 → P i = Q i) : CQW P M' := fun x hx a ha => by
  rw [e, he _ (by omega), he _ (by omega)]
  exact h x hx a ha
def lK : List Nat := [3, 4, 5, 6, 7, 8, 9, 10, 11, 12, 13, 14, 15, 35, 96]
