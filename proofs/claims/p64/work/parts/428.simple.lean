theorem Has.b {M : Mem} (h : Has M) : gI M 3 1 = nI (cB (gI M 112)) ∧ gI M 112 1 = nI (cB (gI M 112)) ∧ cB (gI M 112) ≤ 3 := ⟨h.2.2.1.2.1.trans h.2.1.b, h.2.1.b, h.2.1.2.1.2.2⟩
/-- the branch of a case that answers: the class's answer v, laid into the row, and the reference's w -/
def OKc {α β : Type} (x : Option (Except Nat α × Mem)) (y : Mem → Option (β × Mem)) (cv : α → Int64) (cw : β → Int64) : Prop := ∃ v w M1 M2, x = some (.ok v, M1) ∧ y (sL M1 124 0 (cv v)) = some (w, M2) ∧ Inv M2 ∧ gI M2 108 0 = 0 ∧ gL M2 124 0 = cw w
theorem Has.out {M : Mem} {v : Int64} (h : Has M) : Has (sL M 124 0 v) := h.kp out_kp
