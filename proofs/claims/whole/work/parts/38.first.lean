/-- the first time from i on, of d times, at which a row is positive -/
def fT (F : Nat → Int64) : Nat → Nat → Int32
  | 0, _ => -1
  | d + 1, i => if F i ≤ 0 then fT F d (i + 1) else nI i
theorem fT_step {F : Nat → Int64} {H i : Nat} (h : i < H + 1) : fT F (H + 1 - i) i = if F i ≤ 0 then fT F (H + 1 - (i + 1)) (i + 1) else nI i := by
  rw [show H + 1 - i = (H + 1 - (i + 1)) + 1 by omega]
  rfl
theorem ok_firstTime {Z : Nat} (hZ : 4000 < Z) {M : Mem} (hI : Inv M) (h : Has M) {x : Nat} (hx : x < cN (gI M 112)) : OKc (f_X11_firstTime Z M (nI x)) (fun M => f_X12_firstTime Z M (nI x)) (·.toInt64) (·.toInt64) := by
  have hN := h.N
  have hz := h.hz
  obtain ⟨_, M1, e1, q1, q2, q3, q4, q5⟩ := followRules_ok (Z := Z) (by omega) h
  have k1 : kp M M1 := kp.of q1 (by decide)
  have h1 := h.kp k1
  generalize hv : fT (fun t => fTab (gI M 112) (gI M 109) t x) (pn (gI M 109) 1 + 1) 0 = v
  have h2 := T0.Has (h1.out (v := v.toInt64))
  obtain ⟨_, M3, e3, r1, r2⟩ := laysN_ok (Z := Z) (by omega) h2
  have a112 : gI (T0 (sL M1 124 0 v.toInt64)) 112 = gI M 112 := by rw [T0_I (by decide), gI_sL', q1.I (by decide)]
  have a109 : gI (T0 (sL M1 124 0 v.toInt64)) 109 = gI M 109 := by rw [T0_I (by decide), gI_sL', q1.I (by decide)]
  rw [a112, a109] at r2
  refine ⟨v, v, M1, M3, ?_, ?_, ((hI.kp k1).kp (out_kp.trans T0.kp)).kp (kp.of r1 (by decide)), ?_, ?_⟩
  · unfold f_X11_firstTime
    rw [needState1 h.c.1 hN, if_pos (inR_of hx (by omega)), clT_ok, e1, cl_some, i0]
    have g4 : gI M1 10 4 = nI (pn (gI M 109) 1) := by rw [q1.I (by decide)]; exact hz.1
    refine lpS (σ := Unit) (fun n i _ => f_X11_firstTime_L11 Z (nI x) n (nI i) M1) (fun r => r = some (.ok v, M1)) (fun i _ => fT (fun t => fTab (gI M 112) (gI M 109) t x) (pn (gI M 109) 1 + 1 - i) i = v) 0 (pn (gI M 109) 1 + 1) (s := ()) (by omega) (by omega) hv ?_ ?_
    · intro n t _ _ ht hI9 K
      rw [fT_step ht] at hI9
      rw [f_X11_firstTime_L11, bd_eq, g4]
      simp (disch := omega) only [if_neg (show ¬ pn (gI M 109) 1 < t by omega), at_eq q5 (show x < 6 by omega) (show t < 6 by omega), cl_some, nI_ilt, i1, nI_add]
      by_cases c : fTab (gI M 112) (gI M 109) t x ≤ 0
      · rw [if_pos c] at hI9 ⊢
        exact K () hI9
      · rw [if_neg c] at hI9 ⊢
        rw [hI9]
    · intro n _ hI9
      rw [Nat.sub_self] at hI9
      rw [f_X11_firstTime_L11, bd_eq, g4]
      simp (disch := omega) only [if_pos (show pn (gI M 109) 1 < pn (gI M 109) 1 + 1 by omega), nI_ilt]
      rw [← hI9]
      rfl
  · show f_X12_firstTime Z (sL M1 124 0 v.toInt64) (nI x) = _
    unfold f_X12_firstTime
    rw [noState1 (by exact h1.1) (by exact h1.r.1) h1.N.2, if_pos (inR_of (by rw [q1.I (by decide)]; exact hx) (by have := h1.N; omega)), cl_some, if_pos rfl, e3, cl_some, i0]
    have g4 : gI M3 109 1 = nI (pn (gI M 109) 1) := by rw [r1.I (by decide), a109]; exact hz.2.1
    refine lpS (σ := Unit) (fun n i _ => f_X12_firstTime_L17 Z (nI x) M3 n (nI i)) (fun r => r = some (v, M3)) (fun i _ => fT (fun t => fTab (gI M 112) (gI M 109) t x) (pn (gI M 109) 1 + 1 - i) i = v) 0 (pn (gI M 109) 1 + 1) (s := ()) (by omega) (by omega) hv ?_ ?_
    · intro n t _ _ ht hI9 K
      rw [fT_step ht] at hI9
      rw [f_X12_firstTime_L17]
      simp (disch := omega) only [g4, if_neg (show ¬ pn (gI M 109) 1 < t by omega), r2 t (show t < 6 by omega) x (show x < 6 by omega), mc6, nI_ilt, i1, i6, nI_add, nI_mul, rdI_n, rdL_n]
      by_cases c : fTab (gI M 112) (gI M 109) t x ≤ 0
      · rw [if_pos c] at hI9 ⊢
        exact K () hI9
      · rw [if_neg c] at hI9 ⊢
        rw [hI9]
    · intro n _ hI9
      rw [Nat.sub_self] at hI9
      rw [f_X12_firstTime_L17]
      simp (disch := omega) only [g4, if_pos (show pn (gI M 109) 1 < pn (gI M 109) 1 + 1 by omega), nI_ilt, i1, rdI_n]
      rw [← hI9]
      rfl
  · rw [r1.I (by decide)]
    exact T0_0
  · rw [r1.L (by decide), T0_L, gL_sL, if_pos ⟨rfl, rfl⟩]
theorem b_law_29 {Z L a : Nat} {xs : Nat → Int32} {M : Mem} {j : Mem → Option Unit} (hZ : 4000 < Z) (hI : Inv M) (ha : a + 6 ≤ L) (hL : L ≤ 3072) (hj : ∀ M1, Inv M1 → j M1 = some ()) : f_law_29 Z L xs M (nI a) j = some () := by
  unfold f_law_29
  simp (disch := omega) only [i1, nI_add, rdX_n]
  generalize xs (a + 1) = p1
  rcases hI.2.2.2.2.2 with h | h
  · have e1 : f_L_firstTime Z M p1 = some (1, M) := by
      unfold f_L_firstTime f_X11_firstTime
      rw [needState0 h.2.1]
      rfl
    have e2 : f_X12_firstTime Z M p1 = some (0, Tc M 1) := by
      unfold f_X12_firstTime
      rw [noState0 h.1]
      rfl
    rw [e1, cl_some, e2, cl_some]
    exact tail_l Tc_0 (fun z => absurd z (by decide)) (hj _ (hI.kp Tc.kp))
  · by_cases hp : inR p1 (cN (gI M 112))
    · obtain ⟨x, hx, rfl⟩ := inR_nI hp
      obtain ⟨v, w, M1, M2, q1, q2, q3, q4, q5⟩ := ok_firstTime (Z := Z) hZ hI h hx
      dsimp only at q2 q5
      have e1 : f_L_firstTime Z M (nI x) = some (0, sL M1 124 0 (v.toInt64)) := by
        unfold f_L_firstTime
        rw [q1, clT_ok, i0, wrL_n (by decide) (by decide)]
      rw [e1, cl_some, q2, cl_some]
      exact tail_l q4 (fun _ => q5) (hj _ q3)
    · have e1 : f_L_firstTime Z M p1 = some (2, M) := by
        unfold f_L_firstTime f_X11_firstTime
        rw [needState1 h.c.1 h.N, if_neg hp]
        rfl
      have e2 : f_X12_firstTime Z M p1 = some (0, Tc M 2) := by
        unfold f_X12_firstTime
        rw [noState1 h.1 h.r.1 h.N.2, if_neg hp]
        rfl
      rw [e1, cl_some, e2, cl_some]
      exact tail_l Tc_0 (fun z => absurd z (by decide)) (hj _ (hI.kp Tc.kp))
