/-- limits in the reference's row -/
def LimR (M : Mem) (lim : Nat → Nat) : Prop := ∀ b, b < 3 → gI M 109 (40 + b) = nI (lim b) ∧ lim b ≤ 20000
theorem LimR.fr {l : List Nat} {M M' : Mem} {lim : Nat → Nat} (h : LimR M lim) (hf : fr l M M') (h3 : 109 ∉ l) : LimR M' lim := by
  unfold LimR
  rw [hf.I h3]
  exact h
def brG (P : Nat → Int32) (W : Nat → Nat) (st H : Nat) (lim : Nat → Nat) (b : Nat) : Bool := decide (lim b * (10 * 1000 ^ (H - 1)) < uN P W b st H)
theorem VS.lim {P S : Nat → Int32} {M : Mem} (h : VS P S) (hM : gI M 109 = S) : LimR M (fun b => pn S (40 + b)) := fun b hb => by
  have h2 := h.2.2.2.2.2.2.2.2.1 b hb
  rw [hM]
  exact ⟨h2.1, Nat.le_trans h2.2 (by decide)⟩
