theorem Has.gains {M : Mem} (h : Has M) : ∀ r, r < 18 → gI M 5 r = gI M 112 (14 + r) := fun r hr => h.2.2.1.2.2.2.1 r hr
theorem Has.amts {M : Mem} (h : Has M) : ∀ r, r < 18 → ∀ b, b < 3 → gI M 6 (r * 3 + b) = nI (cA (gI M 112) r b) := fun r hr b hb => by
  rw [show (6 : Nat) = 3 + 3 from rfl, h.2.2.1.2.2.2.2.1 _ (by omega), ← Nat.add_assoc]
  exact h.2.1.a hr hb
theorem gRun_eq {P : Nat → Int32} {W : Nat → Nat} {st H : Nat} (_ : H ≤ 5) : smL (cN P) (fun x => hor (fun t => if t ≤ H ∧ x < cN P then lN (fNow P W st t x) else 0) H * smL (cM P x) (fun a => lN (W (x * 3 + a)) * (P (14 + (x * 3 + a))).toInt64)) = gRun P W st H := by
  refine smL_congr (fun x hx => ?_)
  rw [hor_congr (G := fun t => lN (fNow P W st t x)) (fun t ht => by rw [if_pos ⟨by omega, hx⟩])]
  rfl
theorem uRun_eq {P : Nat → Int32} {W : Nat → Nat} {st H b : Nat} (_ : H ≤ 5) : smL (cN P) (fun x => hor (fun t => if t ≤ H ∧ x < cN P then lN (fNow P W st t x) else 0) H * smL (cM P x) (fun a => lN (W (x * 3 + a) * cA P (x * 3 + a) b))) = uRun P W b st H := by
  refine smL_congr (fun x hx => ?_)
  rw [hor_congr (G := fun t => lN (fNow P W st t x)) (fun t ht => by rw [if_pos ⟨by omega, hx⟩])]
  rfl
/-- gains and uses of a run under the settings now: class -/
theorem cGain {Z : Nat} {M M1 : Mem} (hZ : 60 < Z) (h : Has M) (hf : fr [16, 17, 18] M M1) (h16 : gI M1 16 2 = nI (pn (gI M 109) 1)) (hA : MT 18 M1 (fTab (gI M 112) (gI M 109))) : f_X1_gainOf Z M1 11 = some (gRun (gI M 112) (sW9 (gI M 109)) (pn (gI M 109) 0) (pn (gI M 109) 1), M1) := by
  have hz := h.hz
  rw [gainOf_eq (Z := Z) (h.c.fr hf (by decide) (by decide) (by decide)) h.z (by omega) (w := 11) (W := sW9 (gI M 109)) (G := fun r => gI M 112 (14 + r)) (fun r hr => by rw [hf.I (by decide)]; exact h.RS.w h.VS h.N.2 r hr) (fun r => h.VS.2.2.2.2.1 r) (fun r hr => by rw [hf.I (by decide)]; exact h.gains r hr) (fun r hr => h.2.1.2.2.2.2.1 r hr) hA h16 hz.2.2.1 hz.2.2.2, ← gRun_eq hz.2.2.2]
  rfl
theorem cUsed {Z : Nat} {M M1 : Mem} (hZ : 60 < Z) (h : Has M) (hf : fr [16, 17, 18] M M1) (h16 : gI M1 16 2 = nI (pn (gI M 109) 1)) (hA : MT 18 M1 (fTab (gI M 112) (gI M 109))) {b : Nat} (hb : b < 3) : f_X1_usedOf Z M1 11 (nI b) = some (uRun (gI M 112) (sW9 (gI M 109)) b (pn (gI M 109) 0) (pn (gI M 109) 1), M1) := by
  have hz := h.hz
  rw [usedOf_eq (Z := Z) (h.c.fr hf (by decide) (by decide) (by decide)) h.z (by omega) (w := 11) (W := sW9 (gI M 109)) (G := cA (gI M 112)) hb (fun r hr => by rw [hf.I (by decide)]; exact h.RS.w h.VS h.N.2 r hr) (fun r => h.VS.2.2.2.2.1 r) (fun r hr b hb => by rw [hf.I (by decide)]; exact h.amts r hr b hb) (fun r b => h.2.1.2.2.2.2.2.1 r b) hA h16 hz.2.2.1 hz.2.2.2, ← uRun_eq hz.2.2.2]
  rfl
