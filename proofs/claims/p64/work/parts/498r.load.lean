/-! load, both sides -/
theorem CQ0.tr {Q P : Nat → Int32} {M M' : Mem} (h : CQ0 Q M) (hT : ∀ r, r < 18 → cT Q r ≤ 6) (e : ∀ o, 21 ≤ o → o ≤ 34 → gI M' o = gI M o) (he : ∀ i, i < 344 → P i = Q i) : CQ0 P M' := by
  obtain ⟨h1, h2, h3, h4, q, q1, q2, q3⟩ := h
  refine ⟨(h1.congr hT he).at (fun i hi => e _ (by omega) (by omega)), by rw [e 29 (by decide) (by decide), he 2 (by decide), he 3 (by decide), he 4 (by decide)]; exact h2, fun b hb => by rw [e 32 (by decide) (by decide), he _ (by omega)]; exact h3 b hb, by rw [e 31 (by decide) (by decide)]; exact h4, q, q1, by rw [e 21 (by decide) (by decide)]; exact q2, fun x hx => by rw [he _ (by omega)]; exact q3 x hx⟩
theorem CQW.tr {Q P : Nat → Int32} {M M' : Mem} (h : CQW Q M) (e : gI M' 30 = gI M 30) (he : ∀ i, i < 344 → P i = Q i) : CQW P M' := fun x hx a ha => by
  rw [e, he _ (by omega), he _ (by omega)]
  exact h x hx a ha
def lK : List Nat := [3, 4, 5, 6, 7, 8, 9, 10, 11, 12, 13, 14, 15, 35, 96]
theorem kCopy_ok {Z : Nat} {M : Mem} (hZ : 4000 < Z) : ∃ M', (∀ P : Nat → Int32, RP P M 22 → VW P → kCopy Z M = some (.ok (nI (sm (cN P) (cM P))), M')) ∧ fr lK M M' ∧ (∀ P : Nat → Int32, (∀ r, r < 18 → cT P r ≤ 6) → RP P M 22 → RP P M' 3) ∧ cpd M' 10 M 29 ∧ gI M' 35 0 = nI 0 ∧ gI M' 35 3 = nI 0 ∧ gI M' 96 5 = -1 := by
  obtain ⟨M1, e1, f1, h1⟩ := copyChain (Z := Z) (M := M)
  obtain ⟨_, M2, e2, f2, c2⟩ := copyFrom_ok (Z := Z) (M := M1) (o := 10) (o2 := 29) (Or.inl (by decide))
  have f2' : fr [10, 11, 12, 13, 14, 15] M1 M2 := f2
  have c1 : cpd M2 10 M 29 := by
    unfold cpd at c2 ⊢
    rw [f1.I (show 29 ∉ [3, 4, 5, 6, 7, 8, 9] by decide), f1.I (show 29 + 1 ∉ [3, 4, 5, 6, 7, 8, 9] by decide), f1.I (show 29 + 2 ∉ [3, 4, 5, 6, 7, 8, 9] by decide), f1.I (show 29 + 3 ∉ [3, 4, 5, 6, 7, 8, 9] by decide), f1.I (show 29 + 4 ∉ [3, 4, 5, 6, 7, 8, 9] by decide), f1.I (show 29 + 5 ∉ [3, 4, 5, 6, 7, 8, 9] by decide)] at c2
    exact c2
  have f3 : fr [35, 96] M2 (sI (sI (sI M2 35 0 (0 : Int32)) 35 3 (0 : Int32)) 96 5 (-1 : Int32)) := fr_sI (fr_sI (fr_sI fr.rfl (by decide)) (by decide)) (by decide)
  have a0 : gI (sI (sI (sI M2 35 0 (0 : Int32)) 35 3 (0 : Int32)) 96 5 (-1 : Int32)) 35 0 = nI 0 := by rw [gI_sI, if_neg (by decide), gI_sI, if_neg (by decide), gI_sI, if_pos ⟨rfl, rfl⟩]; rfl
  have a3 : gI (sI (sI (sI M2 35 0 (0 : Int32)) 35 3 (0 : Int32)) 96 5 (-1 : Int32)) 35 3 = nI 0 := by rw [gI_sI, if_neg (by decide), gI_sI, if_pos ⟨rfl, rfl⟩]; rfl
  have a5 : gI (sI (sI (sI M2 35 0 (0 : Int32)) 35 3 (0 : Int32)) 96 5 (-1 : Int32)) 96 5 = -1 := by rw [gI_sI, if_pos ⟨rfl, rfl⟩]
  have un : kCopy Z M = cl (f_X0_countActions Z (sI (sI (sI M2 35 0 (0 : Int32)) 35 3 (0 : Int32)) 96 5 (-1 : Int32)) 3) (fun v13 M14 => some (.ok v13, M14)) := by
    unfold kCopy f_X3_forget f_X5_forget
    rw [e1, cl_some, e2, cl_some, bd_eq, bd_eq, cl_some, bd_eq, cl_some]
  generalize sI (sI (sI M2 35 0 (0 : Int32)) 35 3 (0 : Int32)) 96 5 (-1 : Int32) = M3 at *
  have hR : ∀ P : Nat → Int32, (∀ r, r < 18 → cT P r ≤ 6) → RP P M 22 → RP P M3 3 := fun P hT hP => (h1 P hT hP).at (fun i hi => by
    have i7 : i = 0 ∨ i = 1 ∨ i = 2 ∨ i = 3 ∨ i = 4 ∨ i = 5 ∨ i = 6 := by omega
    rcases i7 with c | c | c | c | c | c | c <;> (subst c; rw [f3.I (by decide), f2'.I (by decide)]))
  refine ⟨M3, fun P hP hW => ?_, ((f1.mono (by decide)).trans (f2'.mono (by decide))).trans (f3.mono (by decide)), hR, ?_, a0, a3, a5⟩
  · rw [un, countA hZ (hR P hW.T hP) hW, cl_some]
  · unfold cpd at c1 ⊢
    rw [f3.I (show 10 ∉ [35, 96] by decide), f3.I (show 10 + 1 ∉ [35, 96] by decide), f3.I (show 10 + 2 ∉ [35, 96] by decide), f3.I (show 10 + 3 ∉ [35, 96] by decide), f3.I (show 10 + 4 ∉ [35, 96] by decide), f3.I (show 10 + 5 ∉ [35, 96] by decide)]
    exact c1

