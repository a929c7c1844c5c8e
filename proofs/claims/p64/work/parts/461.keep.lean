/-- objects that Has does not look at -/
def scrH : List Nat := [1, 2, 21, 22, 23, 24, 25, 26, 27, 28, 29, 30, 31, 32, 33, 34, 92, 105, 106, 108, 114, 123] ++ scrL
theorem rot_okH : ∀ j, j < 7 → ∀ i, i < 6 → 38 + 6 * j + i ∉ scrH := by decide
theorem slot_okH : ∀ j, j < 2 → ∀ i, i < 6 → 80 + 6 * j + i ∉ scrH := by decide
theorem now_okH : ∀ i, i < 6 → 10 + i ∉ scrH := by decide
/-- the parts of the invariant: buffers, errors, texts, slots, sums -/
def IB (M : Mem) : Prop := gI M 1 1 = gI M 108 9 ∧ gI M 108 9 = nI (pn (gI M 108) 9) ∧ pn (gI M 108) 9 ≤ 1200 ∧ ∀ i, i < pn (gI M 108) 9 → ∃ v, v < 256 ∧ gI M 114 i = nI v ∧ gI M 2 i = (nI v).toInt8.toInt32
def IT (M : Mem) : Prop := gI M 106 0 = gI M 106 0 ∧ gI M 105 1 = gI M 108 31 ∧ gI M 108 31 = nI (pn (gI M 108) 31) ∧ pn (gI M 108) 31 ≤ 114 ∧ ∀ i, i < pn (gI M 108) 31 → gI M 106 i = gI M 123 i
def IS (M : Mem) : Prop := gR M 37 0 = some 80 ∧ gR M 37 1 = some 86
def IH (M : Mem) : Prop := (gR M 92 1 = some 93 ∧ gR M 92 2 = some 94 ∨ gR M 92 1 = some 94 ∧ gR M 92 2 = some 93) ∧ ∀ t, gI M 33 t = 0 ∧ gI M 34 t = 0
theorem Inv.ib {M : Mem} (h : Inv M) : IB M := h.1
theorem Inv.it {M : Mem} (h : Inv M) : IT M := h.2.2.1
theorem Inv.is {M : Mem} (h : Inv M) : IS M := h.2.2.2.1
theorem Inv.ih {M : Mem} (h : Inv M) : IH M := h.2.2.2.2.1
theorem Inv.mk {M : Mem} (h1 : IB M) (h2 : gI M 21 2 = gI M 108 10 ∧ gI M 21 3 = gI M 108 11) (h3 : IT M) (h4 : IS M) (h5 : IH M) (h6 : Hasnt M ∨ Has M) : Inv M := ⟨h1, h2, h3, h4, h5, h6⟩
theorem IB.to {M M' : Mem} (h : IB M) (h1 : gI M' 1 1 = gI M 1 1) (h2 : gI M' 108 9 = gI M 108 9) (h3 : gI M' 2 = gI M 2) (h4 : gI M' 114 = gI M 114) : IB M' := by
  have p9 : pn (gI M' 108) 9 = pn (gI M 108) 9 := by unfold pn; rw [h2]
  unfold IB
  rw [h1, h2, h3, h4, p9]
  exact h
theorem IT.to {M M' : Mem} (h : IT M) (h1 : gI M' 105 = gI M 105) (h2 : gI M' 108 31 = gI M 108 31) (h3 : gI M' 106 = gI M 106) (h4 : gI M' 123 = gI M 123) : IT M' := by
  have p9 : pn (gI M' 108) 31 = pn (gI M 108) 31 := by unfold pn; rw [h2]
  unfold IT
  rw [h1, h2, h3, h4, p9]
  exact h
theorem IS.to {M M' : Mem} (h : IS M) (h1 : gR M' 37 = gR M 37) : IS M' := by
  unfold IS
  rw [h1]
  exact h
theorem IH.to {M M' : Mem} (h : IH M) (h1 : gR M' 92 = gR M 92) (h2 : gI M' 33 = gI M 33) (h3 : gI M' 34 = gI M 34) : IH M' := by
  unfold IH
  rw [h1, h2, h3]
  exact h
theorem TX.it {M : Mem} {ds : List Nat} (h : TX M ds) (h2 : TY M ds) (hl : ds.length ≤ 114) : IT M := by
  have e : pn (gI M 108) 31 = ds.length := by
    unfold pn
    rw [h2.1, nI_clamp (by omega)]
  refine ⟨rfl, by rw [h.1, h2.1], by rw [e]; exact h2.1, by omega, fun i hi => ?_⟩
  rw [e] at hi
  rw [h.2 i hi, h2.2 i hi]

