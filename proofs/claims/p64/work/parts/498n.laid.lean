/-! a loaded row; what load copies -/
theorem VQ.same {Q P : Nat → Int32} (h : VQ Q) (he : ∀ i, i < 344 → P i = Q i) : VQ P := by
  obtain ⟨⟨w1, w2⟩, ⟨c1, c2, c3⟩, hR, hL⟩ := h
  have kp : ∀ i, i < 344 → pn P i = pn Q i := fun i hi => pn_c (he i hi)
  have e0 : cN P = cN Q := kp 0 (by decide)
  have eM : ∀ y, y < 6 → cM P y = cM Q y := fun y hy => by
    unfold cM
    rw [if_pos hy, if_pos hy]
    exact kp _ (by omega)
  refine ⟨⟨fun i hi hn => by rw [kp i hi, he i hi]; exact w1 i hi hn, fun r hr => by rw [he _ (by omega)]; exact w2 r hr⟩, ⟨by rw [e0]; exact c1, by rw [e0, kp 2 (by decide)]; exact c2, by rw [kp 3 (by decide)]; exact c3⟩, fun y hy a ha => ?_, fun y hy => ?_⟩
  · rw [eM y hy]
    obtain ⟨h1, h2⟩ := hR y hy a ha
    exact ⟨fun z => (h1 z).of (he 0 (by decide)) (fun i hi => he i (by omega)), fun z => (h2 z).of (fun i hi => he i (by omega)) (fun i hi => he i (by omega))⟩
  · rcases hL y hy with ⟨r4, r5, r6⟩ | ⟨r4, r5⟩
    · exact Or.inl ⟨by rw [he _ (by omega)]; exact r4, by rw [kp _ (by omega), kp _ (by omega), kp _ (by omega)]; exact r5, fun a ha hm => by rw [kp _ (by omega)]; exact r6 a ha (by rw [← eM y hy]; exact hm)⟩
    · exact Or.inr ⟨by rw [he _ (by omega)]; exact r4, fun a ha => by rw [kp _ (by omega)]; exact r5 a ha⟩
theorem RP.congr {Q P : Nat → Int32} {M : Mem} {o : Nat} (h : RP Q M o) (hT : ∀ r, r < 18 → cT Q r ≤ 6) (he : ∀ i, i < 344 → P i = Q i) : RP P M o := by
  obtain ⟨h1, h2, h3, h4, h5, h6, h7, h8⟩ := h
  refine ⟨by rw [he 0 (by decide)]; exact h1, by rw [he 1 (by decide)]; exact h2, fun x hx => by rw [he _ (by omega)]; exact h3 x hx, fun r hr => by rw [he _ (by omega)]; exact h4 r hr, fun k hk => by rw [he _ (by omega)]; exact h5 k hk, fun k hk => by rw [he _ (by omega)]; exact h6 k hk, fun r hr => by rw [he _ (by omega)]; exact h7 r hr, fun r hr k hk => ?_⟩
  have e : cT P r = cT Q r := by
    unfold cT
    rw [if_pos hr, if_pos hr]
    exact pn_c (he _ (by omega))
  rw [e] at hk
  have := hT r hr
  rw [he _ (by omega)]
  exact h8 r hr k hk
theorem VQ.vp {P : Nat → Int32} (h : VQ P) (hz : ∀ x, x < cN P → cM P x ≠ 0) : VP P := by
  obtain ⟨hW, ⟨c1, c2, c3⟩, hR, hL⟩ := h
  have hN := hW.N
  refine ⟨fun i hi hn => (hW.1 i hi hn).1, ⟨c1, hN.2, hW.B.2⟩, fun x => ?_, fun x hx => ?_, hW.2, fun r b => ?_, fun r y => ?_, fun x hx a ha => ?_⟩
  · by_cases c : x < 6
    · exact (hW.M x c).2
    · unfold cM
      rw [if_neg c]
      omega
  · have := hz x hx
    omega
  · by_cases c : r < 18 ∧ b < 3
    · rw [cA_eq c.1 c.2]
      exact (hW.A _ (by omega)).2
    · unfold cA
      rw [if_neg c]
      omega
  · by_cases c : r < 18 ∧ y < 6
    · rw [cP_eq c.1 c.2]
      exact (hW.P _ (by omega)).2
    · unfold cP
      rw [if_neg c]
      omega
  · have x6 : x < 6 := by omega
    have a3 := (hW.M x x6).2
    obtain ⟨p1, p2, p3, p4⟩ := (hR x x6 a (by omega)).1 ha
    exact ⟨p1, hW.T _ (by omega), fun k hk => (p3 k hk).1, p4⟩
/-- the chain copied -/
theorem copyChain {Z : Nat} {M : Mem} : ∃ M', f_X0_copyFrom Z M 3 22 = some ((), M') ∧ fr [3, 4, 5, 6, 7, 8, 9] M M' ∧ ∀ P : Nat → Int32, (∀ r, r < 18 → cT P r ≤ 6) → RP P M 22 → RP P M' 3 := by
  have f2 : fr [3] M (sI (sI M 3 0 (gI M 22 0)) 3 1 (gI M 22 1)) := fr_sI (fr_sI fr.rfl (by decide)) (by decide)
  have v0 : gI (sI (sI M 3 0 (gI M 22 0)) 3 1 (gI M 22 1)) 3 0 = gI M 22 0 := by rw [gI_sI, if_neg (by decide), gI_sI, if_pos ⟨rfl, rfl⟩]
  have v1 : gI (sI (sI M 3 0 (gI M 22 0)) 3 1 (gI M 22 1)) 3 1 = gI M 22 1 := by rw [gI_sI, if_pos ⟨rfl, rfl⟩]
  unfold f_X0_copyFrom
  rw [bd_eq, bd_eq, bd_eq, gI_sI, if_neg (show ¬ ((22 : Nat) = 3 ∧ 1 = 0) by decide), bd_eq]
  generalize sI (sI M 3 0 (gI M 22 0)) 3 1 (gI M 22 1) = M0 at *
  obtain ⟨_, M1, e1, g1, w1⟩ := copyRow_ok (Z := Z) (M := M0) (a := 22 + 1) (b := 3 + 1) (n := 6) (by decide)
  rw [e1, cl_some]
  obtain ⟨_, M2, e2, g2, w2⟩ := copyRow_ok (Z := Z) (M := M1) (a := 22 + 2) (b := 3 + 2) (n := 18) (by decide)
  rw [e2, cl_some]
  obtain ⟨_, M3, e3, g3, w3⟩ := copyRow_ok (Z := Z) (M := M2) (a := 22 + 3) (b := 3 + 3) (n := 54) (by decide)
  rw [e3, cl_some]
  obtain ⟨_, M4, e4, g4, w4⟩ := copyRow_ok (Z := Z) (M := M3) (a := 22 + 4) (b := 3 + 4) (n := 108) (by decide)
  rw [e4, cl_some]
  obtain ⟨_, M5, e5, g5, w5⟩ := copyRow_ok (Z := Z) (M := M4) (a := 22 + 5) (b := 3 + 5) (n := 108) (by decide)
  rw [e5, cl_some]
  obtain ⟨_, M6, e6, g6, w6⟩ := copyRow_ok (Z := Z) (M := M5) (a := 22 + 6) (b := 3 + 6) (n := 18) (by decide)
  rw [e6, cl_some]
  refine ⟨M6, rfl, ?_, fun P hT hP => ?_⟩
  · exact ((((((f2.mono (by decide)).trans (g1.mono (by decide))).trans (g2.mono (by decide))).trans (g3.mono (by decide))).trans (g4.mono (by decide))).trans (g5.mono (by decide))).trans (g6.mono (by decide))
  · obtain ⟨h1, h2, h3, h4, h5, h6, h7, h8⟩ := hP
    refine ⟨?_, ?_, fun x hx => ?_, fun r hr => ?_, fun k hk => ?_, fun k hk => ?_, fun r hr => ?_, fun r hr k hk => ?_⟩
    · rw [g6.I (by decide), g5.I (by decide), g4.I (by decide), g3.I (by decide), g2.I (by decide), g1.I (by decide), v0]; exact h1
    · rw [g6.I (by decide), g5.I (by decide), g4.I (by decide), g3.I (by decide), g2.I (by decide), g1.I (by decide), v1]; exact h2
    · rw [g6.I (by decide), g5.I (by decide), g4.I (by decide), g3.I (by decide), g2.I (by decide), w1 x hx, f2.I (by decide)]; exact h3 x hx
    · rw [g6.I (by decide), g5.I (by decide), g4.I (by decide), g3.I (by decide), w2 r hr, g1.I (by decide), f2.I (by decide)]; exact h4 r hr
    · rw [g6.I (by decide), g5.I (by decide), g4.I (by decide), w3 k hk, g2.I (by decide), g1.I (by decide), f2.I (by decide)]; exact h5 k hk
    · rw [g6.I (by decide), g5.I (by decide), w4 k hk, g3.I (by decide), g2.I (by decide), g1.I (by decide), f2.I (by decide)]; exact h6 k hk
    · rw [w6 r hr, g5.I (by decide), g4.I (by decide), g3.I (by decide), g2.I (by decide), g1.I (by decide), f2.I (by decide)]; exact h7 r hr
    · have := hT r hr
      rw [g6.I (by decide), w5 _ (by omega), g4.I (by decide), g3.I (by decide), g2.I (by decide), g1.I (by decide), f2.I (by decide)]; exact h8 r hr k hk
theorem countA {Z : Nat} {M : Mem} {P : Nat → Int32} (hZ : 4000 < Z) (hP : RP P M 3) (hW : VW P) : f_X0_countActions Z M 3 = some (nI (sm (cN P) (cM P)), M) := by
  have hN := hW.N
  have c0 : gI M 3 0 = nI (cN P) := hP.1.trans hN.1
  unfold f_X0_countActions
  rw [i0]
  refine lpS (σ := Nat) (fun m i s => f_X0_countActions_L4 Z M 3 m (nI s) (nI i)) (fun q => q = some (nI (sm (cN P) (cM P)), M)) (fun i s => s = sm i (cM P)) 0 (cN P) (s := 0) (by omega) (by omega) rfl ?_ ?_
  · intro m i s _ hi hI K
    have hM := hW.M i (by omega)
    rw [f_X0_countActions_L4, bd_eq, c0, if_neg (by rw [nI_ile (by omega) (by omega)]; omega), rdI_n (by omega) (by decide), hP.2.2.1 i (by omega), hM.1, nI_add, show nI i + (1 : Int32) = nI (i + 1) from nI_add i 1]
    refine K _ ?_
    rw [hI]
    rfl
  · intro m s hI
    rw [f_X0_countActions_L4, bd_eq, c0, if_pos (by rw [nI_ile (by omega) (by omega)]; omega), hI]
