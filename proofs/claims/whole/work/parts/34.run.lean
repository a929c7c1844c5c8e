theorem ok_usedOfRun {Z : Nat} (hZ : 4000 < Z) {M : Mem} (hI : Inv M) (h : Has M) {x : Nat} (hx : x < cB (gI M 112)) : OKc (f_X11_usedOfRun Z M (nI x)) (fun M => f_X12_usedOfRun Z M (nI x)) (fun v => v) (fun v => v) := by
  have hB := h.b.2.2
  obtain ⟨_, M1, e1, q1, q2, q3, q4, q5⟩ := followRules_ok (Z := Z) (by omega) h
  have k1 : kp M M1 := kp.of q1 (by decide)
  have h1 := h.kp k1
  generalize hv : uRun (gI M 112) (sW (gI M 109)) x (pn (gI M 109) 0) (pn (gI M 109) 1) = v
  have h2 := T0.Has (h1.out (v := v))
  obtain ⟨v2, M3, e3, r1, r2⟩ := rUsed (Z := Z) (b := x) (by omega) h2 (by omega)
  have a112 : gI (T0 (sL M1 124 0 v)) 112 = gI M 112 := by rw [T0_I (by decide), gI_sL', q1.I (by decide)]
  have a109 : gI (T0 (sL M1 124 0 v)) 109 = gI M 109 := by rw [T0_I (by decide), gI_sL', q1.I (by decide)]
  rw [a112, a109, hv] at r2
  subst r2
  refine ⟨v2, v2, M1, M3, ?_, ?_, ((hI.kp k1).kp (out_kp.trans T0.kp)).kp (kp.of r1 (by decide)), ?_, ?_⟩
  · unfold f_X11_usedOfRun
    rw [needBudget1 h.c.1 h.N h.b.1 hB, if_pos (inR_of hx (by omega)), clT_ok, e1, cl_some, cUsed (by omega) h q1 q3 q5 (by omega), hv, cl_some]
  · show f_X12_usedOfRun Z (sL M1 124 0 v2) (nI x) = _
    unfold f_X12_usedOfRun
    rw [noBudget1 (by exact h1.1) (by exact h1.b.2.1) h1.b.2.2, if_pos (inR_of (by rw [q1.I (by decide)]; exact hx) (by have := h1.b.2.2; omega)), cl_some, if_pos rfl, e3, cl_some]
  · rw [r1.I (by decide)]
    exact T0_0
  · rw [r1.L (by decide), T0_L, gL_sL, if_pos ⟨rfl, rfl⟩]
theorem b_law_24 {Z L a : Nat} {xs : Nat → Int32} {M : Mem} {j : Mem → Option Unit} (hZ : 4000 < Z) (hI : Inv M) (ha : a + 6 ≤ L) (hL : L ≤ 3072) (hj : ∀ M1, Inv M1 → j M1 = some ()) : f_law_24 Z L xs M (nI a) j = some () := by
  unfold f_law_24
  simp (disch := omega) only [i1, nI_add, rdX_n]
  generalize xs (a + 1) = p1
  rcases hI.2.2.2.2.2 with h | h
  · have e1 : f_L_usedOfRun Z M p1 = some (1, M) := by
      unfold f_L_usedOfRun f_X11_usedOfRun
      rw [needBudget0 h.2.1]
      rfl
    have e2 : f_X12_usedOfRun Z M p1 = some (0, Tc M 1) := by
      unfold f_X12_usedOfRun
      rw [noBudget0 h.1]
      rfl
    rw [e1, cl_some, e2, cl_some]
    exact tail_l Tc_0 (fun z => absurd z (by decide)) (hj _ (hI.kp Tc.kp))
  · by_cases hp : inR p1 (cB (gI M 112))
    · obtain ⟨x, hx, rfl⟩ := inR_nI hp
      obtain ⟨v, w, M1, M2, q1, q2, q3, q4, q5⟩ := ok_usedOfRun (Z := Z) hZ hI h hx
      dsimp only at q2 q5
      have e1 : f_L_usedOfRun Z M (nI x) = some (0, sL M1 124 0 v) := by
        unfold f_L_usedOfRun
        rw [q1, clT_ok, i0, wrL_n (by decide) (by decide)]
      rw [e1, cl_some, q2, cl_some]
      exact tail_l q4 (fun _ => q5) (hj _ q3)
    · have e1 : f_L_usedOfRun Z M p1 = some (2, M) := by
        unfold f_L_usedOfRun f_X11_usedOfRun
        rw [needBudget1 h.c.1 h.N h.b.1 h.b.2.2, if_neg hp]
        rfl
      have e2 : f_X12_usedOfRun Z M p1 = some (0, Tc M 2) := by
        unfold f_X12_usedOfRun
        rw [noBudget1 h.1 h.b.2.1 h.b.2.2, if_neg hp]
        rfl
      rw [e1, cl_some, e2, cl_some]
      exact tail_l Tc_0 (fun z => absurd z (by decide)) (hj _ (hI.kp Tc.kp))
theorem ok_left {Z : Nat} (hZ : 4000 < Z) {M : Mem} (hI : Inv M) (h : Has M) {x : Nat} (hx : x < cB (gI M 112)) : OKc (f_X11_left Z M (nI x)) (fun M => f_X12_left Z M (nI x)) (fun v => v) (fun v => v) := by
  have hB := h.b.2.2
  have hz := h.hz
  obtain ⟨_, M1, e1, q1, q2, q3, q4, q5⟩ := followRules_ok (Z := Z) (by omega) h
  have k1 : kp M M1 := kp.of q1 (by decide)
  have h1 := h.kp k1
  generalize hv : (gI M 109 (40 + x)).toInt64 * lN (10 * 1000 ^ (pn (gI M 109) 1 - 1)) - uRun (gI M 112) (sW (gI M 109)) x (pn (gI M 109) 0) (pn (gI M 109) 1) = v
  have h2 := T0.Has (h1.out (v := v))
  obtain ⟨v2, M3, e3, r1, r2⟩ := rUsed (Z := Z) (b := x) (by omega) h2 (by omega)
  have a112 : gI (T0 (sL M1 124 0 v)) 112 = gI M 112 := by rw [T0_I (by decide), gI_sL', q1.I (by decide)]
  have a109 : gI (T0 (sL M1 124 0 v)) 109 = gI M 109 := by rw [T0_I (by decide), gI_sL', q1.I (by decide)]
  rw [a112, a109] at r2
  refine ⟨v, v, M1, M3, ?_, ?_, ((hI.kp k1).kp (out_kp.trans T0.kp)).kp (kp.of r1 (by decide)), ?_, ?_⟩
  · unfold f_X11_left
    have e13 : gI M1 13 x = gI M 109 (40 + x) := by
      rw [q1.I (by decide), show (13 : Nat) = 10 + 3 from rfl]
      exact h.RS.2.2.2.1 x (by omega)
    rw [needBudget1 h.c.1 h.N h.b.1 hB, if_pos (inR_of hx (by omega)), clT_ok, e1, cl_some, rdI_n (by omega) (by decide), bd_eq, q1.I (show 10 ∉ [16, 17, 18] by decide), hz.1, unitOf_eq (by omega) hz.2.2.1 hz.2.2.2, cl_some, cUsed (by omega) h q1 q3 q5 (by omega), cl_some, e13, hv]
  · show f_X12_left Z (sL M1 124 0 v) (nI x) = _
    unfold f_X12_left
    rw [noBudget1 (by exact h1.1) (by exact h1.b.2.1) h1.b.2.2, if_pos (inR_of (by rw [q1.I (by decide)]; exact hx) (by have := h1.b.2.2; omega)), cl_some, if_pos rfl]
    unfold f_X12_leftOf
    rw [rd109 (c := 40 + nI x) (i := 40 + x) (by rw [show (40 : Int32) = nI 40 from rfl, nI_add]) (by omega), unitNow_eq (by omega) hz.2.2.1 hz.2.2.2 (by rw [a109]; exact hz.2.1), cl_some, e3, cl_some, cl_some, a109, r2, hv]
  · rw [r1.I (by decide)]
    exact T0_0
  · rw [r1.L (by decide), T0_L, gL_sL, if_pos ⟨rfl, rfl⟩]
theorem b_law_25 {Z L a : Nat} {xs : Nat → Int32} {M : Mem} {j : Mem → Option Unit} (hZ : 4000 < Z) (hI : Inv M) (ha : a + 6 ≤ L) (hL : L ≤ 3072) (hj : ∀ M1, Inv M1 → j M1 = some ()) : f_law_25 Z L xs M (nI a) j = some () := by
  unfold f_law_25
  simp (disch := omega) only [i1, nI_add, rdX_n]
  generalize xs (a + 1) = p1
  rcases hI.2.2.2.2.2 with h | h
  · have e1 : f_L_left Z M p1 = some (1, M) := by
      unfold f_L_left f_X11_left
      rw [needBudget0 h.2.1]
      rfl
    have e2 : f_X12_left Z M p1 = some (0, Tc M 1) := by
      unfold f_X12_left
      rw [noBudget0 h.1]
      rfl
    rw [e1, cl_some, e2, cl_some]
    exact tail_l Tc_0 (fun z => absurd z (by decide)) (hj _ (hI.kp Tc.kp))
  · by_cases hp : inR p1 (cB (gI M 112))
    · obtain ⟨x, hx, rfl⟩ := inR_nI hp
      obtain ⟨v, w, M1, M2, q1, q2, q3, q4, q5⟩ := ok_left (Z := Z) hZ hI h hx
      dsimp only at q2 q5
      have e1 : f_L_left Z M (nI x) = some (0, sL M1 124 0 v) := by
        unfold f_L_left
        rw [q1, clT_ok, i0, wrL_n (by decide) (by decide)]
      rw [e1, cl_some, q2, cl_some]
      exact tail_l q4 (fun _ => q5) (hj _ q3)
    · have e1 : f_L_left Z M p1 = some (2, M) := by
        unfold f_L_left f_X11_left
        rw [needBudget1 h.c.1 h.N h.b.1 h.b.2.2, if_neg hp]
        rfl
      have e2 : f_X12_left Z M p1 = some (0, Tc M 2) := by
        unfold f_X12_left
        rw [noBudget1 h.1 h.b.2.1 h.b.2.2, if_neg hp]
        rfl
      rw [e1, cl_some, e2, cl_some]
      exact tail_l Tc_0 (fun z => absurd z (by decide)) (hj _ (hI.kp Tc.kp))
