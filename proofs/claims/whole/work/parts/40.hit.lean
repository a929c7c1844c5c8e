theorem nI_eqx {a x : Nat} (ha : a < 2 ^ 31) (hx : x < 2 ^ 31) : (nI a = nI x) = (a = x) := propext (nI_eq ha hx)
theorem ok_hit {Z : Nat} (hZ : 4000 < Z) {M : Mem} (hI : Inv M) (h : Has M) {x : Nat} (hx : x < cN (gI M 112)) : OKc (f_X11_hit Z M (nI x)) (fun M => f_X12_hit Z M (nI x)) (fun v => v) (fun v => v) := by
  have hN := h.N
  have hz := h.hz
  obtain ⟨_, M1, e1, q1, q2, q3, q4, q5⟩ := followRules_ok (Z := Z) (by omega) h
  obtain ⟨v, M2, e2, f2, hv⟩ := hitOf_ok (Z := Z) (M := M1) (N := cN (gI M 112)) (by rw [q1.I (by decide)]; exact h.c.1) hN.2 (by omega) q4 (fun a ha => Nat.le_of_eq (Tp_sum h.2.1 h.VS a ha)) q2 q3 h.st.2 hz.2.2.2 hx
  have k1 : kp M M2 := (kp.of q1 (by decide)).trans (kp.of f2 (by decide))
  have h1 := h.kp k1
  have h2 := T0.Has (h1.out (v := v))
  have i112 : gI M2 112 = gI M 112 := by rw [f2.I (by decide), q1.I (by decide)]
  have i109 : gI M2 109 = gI M 109 := by rw [f2.I (by decide), q1.I (by decide)]
  have a112 : gI (T0 (sL M2 124 0 v)) 112 = gI M 112 := by rw [T0_I (by decide), gI_sL', i112]
  have a109 : gI (T0 (sL M2 124 0 v)) 109 = gI M 109 := by rw [T0_I (by decide), gI_sL', i109]
  obtain ⟨_, M3, e3, r1, r2⟩ := lays_ok (Z := Z) (M := T0 (sL M2 124 0 v)) (h.2.1.chR a112) h.z (by omega) (h.VS.toSR a109) h.st.2 hz.2.2.2 (fun x y hx hy => Tp_le h.2.1 h.VS hx hy) (nI x)
  refine ⟨v, v, M2, M3, ?_, ?_, ((hI.kp k1).kp (out_kp.trans T0.kp)).kp (kp.of r1 (by decide)), ?_, ?_⟩
  · unfold f_X11_hit
    rw [needState1 h.c.1 hN, if_pos (inR_of hx (by omega)), clT_ok, e1, cl_some, e2, cl_some]
  · show f_X12_hit Z (sL M2 124 0 v) (nI x) = _
    unfold f_X12_hit
    rw [noState1 (by exact h1.1) (by exact h1.r.1) h1.N.2, if_pos (inR_of (by rw [i112]; exact hx) (by have := h1.N; omega)), cl_some, if_pos rfl, e3, cl_some, together_eq r2 (by omega) (x := x) (H := pn (gI M 109) 1) (by omega) hz.2.2.2 (by rw [r1.I (by decide), a109]; exact hz.2.1), cl_some, hv]
    exact congrArg (fun z => some (z, M3)) (hor_congr (fun t ht => by
      rw [if_pos ⟨by omega, hx⟩]
      exact congrArg lN (Fl_congr (fun a y ha => by simp only [nI_eqx (show a < 2 ^ 31 by omega) (show x < 2 ^ 31 by omega)]) t x)))
  · rw [r1.I (by decide)]
    exact T0_0
  · rw [r1.L (by decide), T0_L, gL_sL, if_pos ⟨rfl, rfl⟩]
theorem b_law_21 {Z L a : Nat} {xs : Nat → Int32} {M : Mem} {j : Mem → Option Unit} (hZ : 4000 < Z) (hI : Inv M) (ha : a + 6 ≤ L) (hL : L ≤ 3072) (hj : ∀ M1, Inv M1 → j M1 = some ()) : f_law_21 Z L xs M (nI a) j = some () := by
  unfold f_law_21
  simp (disch := omega) only [i1, nI_add, rdX_n]
  generalize xs (a + 1) = p1
  rcases hI.2.2.2.2.2 with h | h
  · have e1 : f_L_hit Z M p1 = some (1, M) := by
      unfold f_L_hit f_X11_hit
      rw [needState0 h.2.1]
      rfl
    have e2 : f_X12_hit Z M p1 = some (0, Tc M 1) := by
      unfold f_X12_hit
      rw [noState0 h.1]
      rfl
    rw [e1, cl_some, e2, cl_some]
    exact tail_l Tc_0 (fun z => absurd z (by decide)) (hj _ (hI.kp Tc.kp))
  · by_cases hp : inR p1 (cN (gI M 112))
    · obtain ⟨x, hx, rfl⟩ := inR_nI hp
      obtain ⟨v, w, M1, M2, q1, q2, q3, q4, q5⟩ := ok_hit (Z := Z) hZ hI h hx
      dsimp only at q2 q5
      have e1 : f_L_hit Z M (nI x) = some (0, sL M1 124 0 v) := by
        unfold f_L_hit
        rw [q1, clT_ok, i0, wrL_n (by decide) (by decide)]
      rw [e1, cl_some, q2, cl_some]
      exact tail_l q4 (fun _ => q5) (hj _ q3)
    · have e1 : f_L_hit Z M p1 = some (2, M) := by
        unfold f_L_hit f_X11_hit
        rw [needState1 h.c.1 h.N, if_neg hp]
        rfl
      have e2 : f_X12_hit Z M p1 = some (0, Tc M 2) := by
        unfold f_X12_hit
        rw [noState1 h.1 h.r.1 h.N.2, if_neg hp]
        rfl
      rw [e1, cl_some, e2, cl_some]
      exact tail_l Tc_0 (fun z => absurd z (by decide)) (hj _ (hI.kp Tc.kp))
