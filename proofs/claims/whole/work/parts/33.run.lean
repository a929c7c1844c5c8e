theorem Has.gains {M : Mem} (h : Has M) : ∀ r, r < 18 → gI M 5 r = gI M 112 (14 + r) := fun r hr => h.2.2.1.2.2.2.1 r hr
theorem Has.amts {M : Mem} (h : Has M) : ∀ r, r < 18 → ∀ b, b < 3 → gI M 6 (r * 3 + b) = nI (cA (gI M 112) r b) := fun r hr b hb => by
  rw [show (6 : Nat) = 3 + 3 from rfl, h.2.2.1.2.2.2.2.1 _ (by omega), ← Nat.add_assoc]
  exact h.2.1.a hr hb
theorem gRun_eq {P : Nat → Int32} {W : Nat → Nat} {st H : Nat} (_ : H ≤ 5) : smL (cN P) (fun x => hor (fun t => if t ≤ H ∧ x < cN P then lN (fNow P W st t x) else 0) H * smL (cM P x) (fun a => lN (W (x * 3 + a)) * (P (14 + (x * 3 + a))).toInt64)) = gRun P W st H := by
  refine smL_congr (fun x hx => ?_)
  rw [hor_congr (G := fun t => lN (fNow P W st t x)) (fun t ht => by rw [if_pos ⟨by omega, hx⟩])]
  rfl
theorem uRun_eq {P : Nat → Int32} {W : Nat → Nat} {st H b : Nat} (_ : H ≤ 5) : smL (cN P) (fun x => hor (fun t => if t ≤ H ∧ x < cN P then lN (fNow P W st t x) else 0) H * smL (cM P x) (fun a => lN (W (x * 3 + a) * cA P (x * 3 + a) b))) = uRun P W b st H := by
  refine smL_congr (fun x hx => ?_)
  rw [hor_congr (G := fun t => lN (fNow P W st t x)) (fun t ht => by rw [if_pos ⟨by omega, hx⟩])]
  rfl
/-- gains and uses of a run under the settings now: class -/
theorem cGain {Z : Nat} {M M1 : Mem} (hZ : 60 < Z) (h : Has M) (hf : fr [16, 17, 18] M M1) (h16 : gI M1 16 2 = nI (pn (gI M 109) 1)) (hA : MT 18 M1 (fTab (gI M 112) (gI M 109))) : f_X1_gainOf Z M1 11 = some (gRun (gI M 112) (sW (gI M 109)) (pn (gI M 109) 0) (pn (gI M 109) 1), M1) := by
  have hz := h.hz
  rw [gainOf_eq (Z := Z) (h.c.fr hf (by decide) (by decide) (by decide)) h.z (by omega) (w := 11) (W := sW (gI M 109)) (G := fun r => gI M 112 (14 + r)) (fun r hr => by rw [hf.I (by decide)]; exact h.RS.w h.VS h.N.2 r hr) (fun r => h.VS.2.2.2.2.1 r) (fun r hr => by rw [hf.I (by decide)]; exact h.gains r hr) (fun r hr => h.2.1.2.2.2.2.1 r hr) hA h16 hz.2.2.1 hz.2.2.2, ← gRun_eq hz.2.2.2]
  rfl
theorem cUsed {Z : Nat} {M M1 : Mem} (hZ : 60 < Z) (h : Has M) (hf : fr [16, 17, 18] M M1) (h16 : gI M1 16 2 = nI (pn (gI M 109) 1)) (hA : MT 18 M1 (fTab (gI M 112) (gI M 109))) {b : Nat} (hb : b < 3) : f_X1_usedOf Z M1 11 (nI b) = some (uRun (gI M 112) (sW (gI M 109)) b (pn (gI M 109) 0) (pn (gI M 109) 1), M1) := by
  have hz := h.hz
  rw [usedOf_eq (Z := Z) (h.c.fr hf (by decide) (by decide) (by decide)) h.z (by omega) (w := 11) (W := sW (gI M 109)) (G := cA (gI M 112)) hb (fun r hr => by rw [hf.I (by decide)]; exact h.RS.w h.VS h.N.2 r hr) (fun r => h.VS.2.2.2.2.1 r) (fun r hr b hb => by rw [hf.I (by decide)]; exact h.amts r hr b hb) (fun r b => h.2.1.2.2.2.2.2.1 r b) hA h16 hz.2.2.1 hz.2.2.2, ← uRun_eq hz.2.2.2]
  rfl
/-- .. reference -/
theorem rGain {Z : Nat} {M : Mem} (hZ : 60 < Z) (h : Has M) : OK (f_X12_ofRun Z M (-1)) (fun v M' => fr [116] M M' ∧ v = gRun (gI M 112) (sW (gI M 109)) (pn (gI M 109) 0) (pn (gI M 109) 1)) := by
  have hz := h.hz
  obtain ⟨v, M1, e1, f1, hv⟩ := ofRun_ok (Z := Z) h.2.1 rfl hZ (h.VS.toSR rfl) h.st.2 hz.2.2.1 hz.2.2.2 (fun r => h.VS.2.2.2.2.1 r) (fun x y hx hy => Tp_le h.2.1 h.VS hx hy) (its := fun x a => gI M 112 (14 + (x * 3 + a))) (Or.inl ⟨rfl, fun _ _ => rfl⟩)
  exact ⟨v, M1, e1, f1, by rw [hv, ← gRun_eq hz.2.2.2]⟩
theorem rUsed {Z : Nat} {M : Mem} (hZ : 60 < Z) (h : Has M) {b : Nat} (hb : b < 3) : OK (f_X12_ofRun Z M (nI b)) (fun v M' => fr [116] M M' ∧ v = uRun (gI M 112) (sW (gI M 109)) b (pn (gI M 109) 0) (pn (gI M 109) 1)) := by
  have hz := h.hz
  obtain ⟨v, M1, e1, f1, hv⟩ := ofRun_ok (Z := Z) h.2.1 rfl hZ (h.VS.toSR rfl) h.st.2 hz.2.2.1 hz.2.2.2 (fun r => h.VS.2.2.2.2.1 r) (fun x y hx hy => Tp_le h.2.1 h.VS hx hy) (its := fun x a => nI (cA (gI M 112) (x * 3 + a) b)) (Or.inr ⟨b, hb, rfl, fun _ _ => rfl⟩)
  refine ⟨v, M1, e1, f1, ?_⟩
  rw [hv, ← uRun_eq hz.2.2.2]
  refine smL_congr (fun x _ => ?_)
  congr 1
  refine smL_congr (fun a _ => ?_)
  have := h.2.1.2.2.2.2.2.1 (x * 3 + a) b
  rw [nI_l (by omega), lN_mul]
theorem ok_gainOfRun {Z : Nat} (hZ : 4000 < Z) {M : Mem} (hI : Inv M) (h : Has M) : OKc (f_X11_gainOfRun Z M) (fun M => f_X12_gainOfRun Z M) (fun v => v) (fun v => v) := by
  obtain ⟨_, M1, e1, q1, q2, q3, q4, q5⟩ := followRules_ok (Z := Z) (by omega) h
  have k1 : kp M M1 := kp.of q1 (by decide)
  have h1 := h.kp k1
  generalize hv : gRun (gI M 112) (sW (gI M 109)) (pn (gI M 109) 0) (pn (gI M 109) 1) = v
  have h2 := T0.Has (h1.out (v := v))
  obtain ⟨v2, M3, e3, r1, r2⟩ := rGain (Z := Z) (by omega) h2
  have a112 : gI (T0 (sL M1 124 0 v)) 112 = gI M 112 := by rw [T0_I (by decide), gI_sL', q1.I (by decide)]
  have a109 : gI (T0 (sL M1 124 0 v)) 109 = gI M 109 := by rw [T0_I (by decide), gI_sL', q1.I (by decide)]
  rw [a112, a109, hv] at r2
  subst r2
  refine ⟨v2, v2, M1, M3, ?_, ?_, ((hI.kp k1).kp (out_kp.trans T0.kp)).kp (kp.of r1 (by decide)), ?_, ?_⟩
  · unfold f_X11_gainOfRun
    rw [needChain1 h.c.1 h.N, clT_ok, e1, cl_some, cGain (by omega) h q1 q3 q5, hv, cl_some]
  · show f_X12_gainOfRun Z (sL M1 124 0 v2) = _
    unfold f_X12_gainOfRun
    rw [noChain1 (by exact h1.1), cl_some, if_pos rfl]
    rw [show sI (sL M1 124 0 v2) 108 0 0 = T0 (sL M1 124 0 v2) from rfl, e3, cl_some]
  · rw [r1.I (by decide)]
    exact T0_0
  · rw [r1.L (by decide), T0_L, gL_sL, if_pos ⟨rfl, rfl⟩]
theorem b_law_23 {Z L a : Nat} {xs : Nat → Int32} {M : Mem} {j : Mem → Option Unit} (hZ : 4000 < Z) (hI : Inv M) (ha : a + 6 ≤ L) (hL : L ≤ 3072) (hj : ∀ M1, Inv M1 → j M1 = some ()) : f_law_23 Z L xs M (nI a) j = some () := by
  unfold f_law_23
  rcases hI.2.2.2.2.2 with h | h
  · have e1 : f_L_gainOfRun Z M = some (1, M) := by
      unfold f_L_gainOfRun f_X11_gainOfRun
      rw [needChain0 h.2.1]
      rfl
    have e2 : f_X12_gainOfRun Z M = some (0, Tc M 1) := by
      unfold f_X12_gainOfRun
      rw [noChain0 h.1]
      rfl
    rw [e1, cl_some, e2, cl_some]
    exact tail_l Tc_0 (fun z => absurd z (by decide)) (hj _ (hI.kp Tc.kp))
  · obtain ⟨v, w, M1, M2, q1, q2, q3, q4, q5⟩ := ok_gainOfRun (Z := Z) hZ hI h
    dsimp only at q2 q5
    have e1 : f_L_gainOfRun Z M = some (0, sL M1 124 0 v) := by
      unfold f_L_gainOfRun
      rw [q1, clT_ok, i0, wrL_n (by decide) (by decide)]
    rw [e1, cl_some, q2, cl_some]
    exact tail_l q4 (fun _ => q5) (hj _ q3)
