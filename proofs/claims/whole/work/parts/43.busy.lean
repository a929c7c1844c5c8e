theorem ok_busiest {Z : Nat} (hZ : 4000 < Z) {M : Mem} (hI : Inv M) (h : Has M) {x : Nat} (hx : x < cN (gI M 112)) : OKc (f_X11_busiest Z M (nI x)) (fun M => f_X12_busiest Z M (nI x)) (·.toInt64) (·.toInt64) := by
  have hN := h.N
  have hz := h.hz
  obtain ⟨_, M1, e1, q1, q2, q3, q4, q5⟩ := followRules_ok (Z := Z) (by omega) h
  have k1 : kp M M1 := kp.of q1 (by decide)
  have h1 := h.kp k1
  have i3 : gI M1 3 0 = nI (cN (gI M 112)) := by rw [q1.I (by decide)]; exact h.c.1
  generalize hV : (fun y => hor (fun t => fTab (gI M 112) (gI M 109) t y) (pn (gI M 109) 1 + 1)) = V
  obtain ⟨y, hy, hr⟩ := pigeon (cN (gI M 112)) (rnk V (cN (gI M 112))) (fun i hi => rnk_N hi) (fun i j hi hj e => rnk_inj hi hj e) x hx
  have un : ∀ z, z < cN (gI M 112) → rnk V (cN (gI M 112)) z = x → z = y := fun z hz e => rnk_inj hz hy (e.trans hr.symm)
  have h2 := T0.Has (h1.out (v := (nI y).toInt64))
  obtain ⟨_, M3, e3, r1, r2⟩ := laysN_ok (Z := Z) (by omega) h2
  have a112 : gI (T0 (sL M1 124 0 (nI y).toInt64)) 112 = gI M 112 := by rw [T0_I (by decide), gI_sL', q1.I (by decide)]
  have a109 : gI (T0 (sL M1 124 0 (nI y).toInt64)) 109 = gI M 109 := by rw [T0_I (by decide), gI_sL', q1.I (by decide)]
  rw [a112, a109] at r2
  refine ⟨nI y, nI y, M1, M3, ?_, ?_, ((hI.kp k1).kp (out_kp.trans T0.kp)).kp (kp.of r1 (by decide)), ?_, ?_⟩
  · unfold f_X11_busiest
    rw [needState1 h.c.1 hN, if_pos (inR_of hx (by omega)), clT_ok, e1, cl_some, i0]
    refine lpS (σ := Unit) (fun n i _ => f_X11_busiest_L11 Z (nI x) n (nI i) M1) (fun r => r = some (.ok (nI y), M1)) (fun i _ => i ≤ y) 0 y (s := ()) (by omega) (by omega) (Nat.zero_le _) ?_ ?_
    · intro n z _ _ hz9 _ K
      have hrk := rnk_N (V := V) (N := cN (gI M 112)) (x := z) (by omega)
      have hne : rnk V (cN (gI M 112)) z ≠ x := fun e => absurd (un z (by omega) e) (by omega)
      rw [f_X11_busiest_L11, bd_eq, i3]
      simp (disch := omega) only [if_neg (show ¬ cN (gI M 112) ≤ z by omega), nI_ile, rankOf_eq q5 (show 20 < Z by omega) (x := z) (N := cN (gI M 112)) (show z < cN (gI M 112) by omega) hN.2 i3 hz.2.2.2 q3, hV, cl_some, nI_eqx, if_neg hne, i1, nI_add]
      exact K () (by omega)
    · intro n _ _
      have hrk := rnk_N (V := V) (N := cN (gI M 112)) (x := y) hy
      rw [f_X11_busiest_L11, bd_eq, i3]
      simp (disch := omega) only [if_neg (show ¬ cN (gI M 112) ≤ y by omega), nI_ile, rankOf_eq q5 (show 20 < Z by omega) (x := y) (N := cN (gI M 112)) hy hN.2 i3 hz.2.2.2 q3, hV, cl_some, nI_eqx, if_pos hr]
  · show f_X12_busiest Z (sL M1 124 0 (nI y).toInt64) (nI x) = _
    unfold f_X12_busiest
    have j112 : gI M3 112 0 = nI (cN (gI M 112)) := by rw [r1.I (by decide), a112]; exact h.2.1.n
    have j109 : gI M3 109 1 = nI (pn (gI M 109) 1) := by rw [r1.I (by decide), a109]; exact hz.2.1
    rw [noState1 (by exact h1.1) (by exact h1.r.1) h1.N.2, if_pos (inR_of (by rw [q1.I (by decide)]; exact hx) (by have := h1.N; omega)), cl_some, if_pos rfl, e3, cl_some, i0, show nI 0 = (if y < 0 then nI y else nI 0) from rfl]
    refine lpS (σ := Unit) (fun n i _ => f_X12_busiest_L19 Z (nI x) n (if y < i then nI y else nI 0) (nI i) M3) (fun r => r = some (nI y, M3)) (fun _ _ => True) 0 (cN (gI M 112)) (s := ()) (by omega) (by omega) trivial ?_ ?_
    · intro n z _ _ hz9 _ K
      have hrk := rnk_N (V := V) (N := cN (gI M 112)) (x := z) hz9
      have K1 := K () trivial
      rw [f_X12_busiest_L19]
      simp (disch := omega) only [j112, if_neg (show ¬ cN (gI M 112) ≤ z by omega), nI_ile, i0, rdI_n, aheadOf_eq r2 (show 20 < Z by omega) (x := z) (N := cN (gI M 112)) hz9 hN.2 j112 hz.2.2.2 j109, hV, jn_eq, nI_eqx, i1, nI_add]
      by_cases c : rnk V (cN (gI M 112)) z = x
      · have e := un z hz9 c
        subst e
        rw [if_pos (by omega)] at K1
        rw [if_pos c]
        exact K1
      · have e : ¬ z = y := fun q => c (by rw [q]; exact hr)
        rw [if_neg c]
        by_cases d : y < z
        · rw [if_pos (by omega)] at K1
          rw [if_pos d]
          exact K1
        · rw [if_neg (by omega)] at K1
          rw [if_neg d]
          exact K1
    · intro n _ _
      rw [f_X12_busiest_L19]
      simp (disch := omega) only [j112, ge_self, if_true, i0, rdI_n, if_pos hy]
  · rw [r1.I (by decide)]
    exact T0_0
  · rw [r1.L (by decide), T0_L, gL_sL, if_pos ⟨rfl, rfl⟩]
theorem b_law_30 {Z L a : Nat} {xs : Nat → Int32} {M : Mem} {j : Mem → Option Unit} (hZ : 4000 < Z) (hI : Inv M) (ha : a + 6 ≤ L) (hL : L ≤ 3072) (hj : ∀ M1, Inv M1 → j M1 = some ()) : f_law_30 Z L xs M (nI a) j = some () := by
  unfold f_law_30
  simp (disch := omega) only [i1, nI_add, rdX_n]
  generalize xs (a + 1) = p1
  rcases hI.2.2.2.2.2 with h | h
  · have e1 : f_L_busiest Z M p1 = some (1, M) := by
      unfold f_L_busiest f_X11_busiest
      rw [needState0 h.2.1]
      rfl
    have e2 : f_X12_busiest Z M p1 = some (0, Tc M 1) := by
      unfold f_X12_busiest
      rw [noState0 h.1]
      rfl
    rw [e1, cl_some, e2, cl_some]
    exact tail_l Tc_0 (fun z => absurd z (by decide)) (hj _ (hI.kp Tc.kp))
  · by_cases hp : inR p1 (cN (gI M 112))
    · obtain ⟨x, hx, rfl⟩ := inR_nI hp
      obtain ⟨v, w, M1, M2, q1, q2, q3, q4, q5⟩ := ok_busiest (Z := Z) hZ hI h hx
      dsimp only at q2 q5
      have e1 : f_L_busiest Z M (nI x) = some (0, sL M1 124 0 (v.toInt64)) := by
        unfold f_L_busiest
        rw [q1, clT_ok, i0, wrL_n (by decide) (by decide)]
      rw [e1, cl_some, q2, cl_some]
      exact tail_l q4 (fun _ => q5) (hj _ q3)
    · have e1 : f_L_busiest Z M p1 = some (2, M) := by
        unfold f_L_busiest f_X11_busiest
        rw [needState1 h.c.1 h.N, if_neg hp]
        rfl
      have e2 : f_X12_busiest Z M p1 = some (0, Tc M 2) := by
        unfold f_X12_busiest
        rw [noState1 h.1 h.r.1 h.N.2, if_neg hp]
        rfl
      rw [e1, cl_some, e2, cl_some]
      exact tail_l Tc_0 (fun z => absurd z (by decide)) (hj _ (hI.kp Tc.kp))
