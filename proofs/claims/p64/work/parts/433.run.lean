theorem Has.gains {M : Mem} (h : Has M) : ∀ r, r < 18 → gI M 5 r = gI M 112 (14 + r) := fun r hr => h.2.2.1.2.2.2.1 r hr
theorem Has.amts {M : Mem} (h : Has M) : ∀ r, r < 18 → ∀ b, b < 3 → gI M 6 (r * 3 + b) = nI (cA (gI M 112) r b) := fun r hr b hb => by
  rw [show (6 : Nat) = 3 + 3 from rfl, h.2.2.1.2.2.2.2.1 _ (by omega), ← Nat.add_assoc]
  exact h.2.1.a hr hb
theorem gRun_eq {P : Nat → Int32} {W : Nat → Nat} {st H : Nat} (_ : H ≤ 5) : smL (cN P) (fun x => hor (fun t => if t ≤ H ∧ x < cN P then lN (fNow P W st t x) else 0) H * smL (cM P x) (fun a => lN (W (x * 3 + a)) * (P (14 + (x * 3 + a))).toInt64)) = gRun P W st H := by
  refine smL_congr (fun x hx => ?_)
  rw [hor_congr (G := fun t => lN (fNow P W st t x)) (fun t ht => by rw [if_pos ⟨by omega, hx⟩])]
  rfl
theorem uRun_eq {P : Nat → Int32} {W : Nat → Nat} {st H b : Nat} (_ : H ≤ 5) : smL (cN P) (fun x => hor (fun t => if t ≤ H ∧ x < cN P then lN (fNow P W st t x) else 0) H * smL (cM P x) (fun a => lN (W (x * 3 + a) * cA P (x * 3 + a) b))) = uRun P W b st H := by
  refine smL_congr (fun x hx => ?_)
  rw [hor_congr (G := fun t => lN (fNow P W st t x)) (fun t ht => by rw [if_pos ⟨by omega, hx⟩])]
  rfl
