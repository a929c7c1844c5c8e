/-- objects that Has does not look at -/
def scrH : List Nat := [1, 2, 21, 22, 23, 24, 25, 26, 27, 28, 29, 30, 31, 32, 33, 34, 92, 105, 106, 108, 114, 123] ++ scrL
/-- a change that Has does not see -/
def kh (M M' : Mem) : Prop := (∀ o, o ∉ scrH → gI M' o = gI M o ∧ gL M' o = gL M o ∧ gR M' o = gR M o) ∧ gI M' 108 1 = gI M 108 1 ∧ gI M' 108 4 = gI M 108 4
theorem kh.rfl {M : Mem} : kh M M := ⟨fun _ _ => ⟨Eq.refl _, Eq.refl _, Eq.refl _⟩, Eq.refl _, Eq.refl _⟩
theorem kh.trans {M M1 M2 : Mem} (h : kh M M1) (h2 : kh M1 M2) : kh M M2 := ⟨fun o a => ⟨(h2.1 o a).1.trans (h.1 o a).1, (h2.1 o a).2.1.trans (h.1 o a).2.1, (h2.1 o a).2.2.trans (h.1 o a).2.2⟩, h2.2.1.trans h.2.1, h2.2.2.trans h.2.2⟩
theorem kh.of {l : List Nat} {M M1 : Mem} (h : fr l M M1) (hl : ∀ o ∈ l, o ∈ scrH) (h8 : 108 ∉ l) : kh M M1 := ⟨fun o a => h o (fun z => a (hl o z)), by rw [h.I h8], by rw [h.I h8]⟩
theorem kp.kh {M M' : Mem} (h : kp M M') : kh M M' := ⟨fun o a => h.1 o (fun z => a (List.mem_append_right _ z)) (fun z => a (by rw [z]; decide)), h.2 1 (by decide), h.2 4 (by decide)⟩
theorem RS.kh {P : Nat → Int32} {M M' : Mem} {o : Nat} {S : Nat → Int32} (h : RS P M o S) (hk : kh M M') (ho : ∀ i, i < 6 → o + i ∉ scrH) : RS P M' o S := by
  unfold RS
  rw [(hk.1 o (ho 0 (by decide))).1, (hk.1 (o + 1) (ho 1 (by decide))).1, (hk.1 (o + 2) (ho 2 (by decide))).1, (hk.1 (o + 3) (ho 3 (by decide))).1, (hk.1 (o + 4) (ho 4 (by decide))).1, (hk.1 (o + 5) (ho 5 (by decide))).1]
  exact h
theorem rot_okH : ∀ j, j < 7 → ∀ i, i < 6 → 38 + 6 * j + i ∉ scrH := by decide
theorem slot_okH : ∀ j, j < 2 → ∀ i, i < 6 → 80 + 6 * j + i ∉ scrH := by decide
theorem now_okH : ∀ i, i < 6 → 10 + i ∉ scrH := by decide
theorem Has.kh {M M' : Mem} (h : Has M) (hk : kh M M') : Has M' := by
  obtain ⟨h1, h2, h3, h4, h5, h6, ⟨rot, r1, r2, r3⟩, ⟨q, q1, q2, q3⟩, h9⟩ := h
  have e112 := (hk.1 112 (by decide)).1
  have e109 := (hk.1 109 (by decide)).1
  have e110 := (hk.1 110 (by decide)).1
  have e35 := (hk.1 35 (by decide)).1
  have e111 := (hk.1 111 (by decide)).1
  have e36 := (hk.1 36 (by decide)).2.2
  have k4 := hk.2.2
  have p4 : pn (gI M' 108) 4 = pn (gI M 108) 4 := by unfold pn; rw [k4]
  refine ⟨by rw [hk.2.1]; exact h1, by rw [e112]; exact h2, ?_, by rw [e112, e109]; exact h4, by rw [e112, e109]; exact h5.kh hk now_okH, ?_, ⟨rot, r1, by rw [e36]; exact r2, ?_⟩, ⟨q, q1, by rw [e35]; exact q2, ?_⟩, ?_⟩
  · rw [e112]
    unfold RP
    rw [(hk.1 3 (by decide)).1, (hk.1 (3 + 1) (by decide)).1, (hk.1 (3 + 2) (by decide)).1, (hk.1 (3 + 3) (by decide)).1, (hk.1 (3 + 4) (by decide)).1, (hk.1 (3 + 5) (by decide)).1, (hk.1 (3 + 6) (by decide)).1]
    exact h3
  · rw [e35, k4, p4]
    exact h6
  · rw [p4, e112, e110]
    intro k hk9
    obtain ⟨a, b⟩ := r3 k hk9
    exact ⟨a, b.kh hk (rot_okH _ (Nat.mod_lt _ (by decide)))⟩
  · rw [e111, e112, e110]
    intro z hz
    obtain ⟨a, b⟩ := q3 z hz
    exact ⟨a, fun y => ⟨(b y).1, (b y).2.kh hk (slot_okH z hz)⟩⟩
  · rw [e112]
    unfold Cache
    rw [(hk.1 96 (by decide)).1, (hk.1 97 (by decide)).2.1, (hk.1 98 (by decide)).2.1]
    exact h9
theorem Hasnt.kh {M M' : Mem} (h : Hasnt M) (hk : kh M M') : Hasnt M' := by
  unfold Hasnt
  rw [hk.2.1, hk.2.2, (hk.1 3 (by decide)).1, (hk.1 10 (by decide)).1, (hk.1 35 (by decide)).1, (hk.1 111 (by decide)).1, (hk.1 36 (by decide)).2.2]
  exact h
/-- the parts of the invariant: buffers, errors, texts, slots, sums -/
def IB (M : Mem) : Prop := gI M 1 1 = gI M 108 9 ∧ gI M 108 9 = nI (pn (gI M 108) 9) ∧ pn (gI M 108) 9 ≤ 1200 ∧ ∀ i, i < pn (gI M 108) 9 → ∃ v, v < 256 ∧ gI M 114 i = nI v ∧ gI M 2 i = (nI v).toInt8.toInt32
def IT (M : Mem) : Prop := gI M 106 0 = gI M 106 0 ∧ gI M 105 1 = gI M 108 31 ∧ gI M 108 31 = nI (pn (gI M 108) 31) ∧ pn (gI M 108) 31 ≤ 114 ∧ ∀ i, i < pn (gI M 108) 31 → gI M 106 i = gI M 123 i
def IS (M : Mem) : Prop := gR M 37 0 = some 80 ∧ gR M 37 1 = some 86
def IH (M : Mem) : Prop := (gR M 92 1 = some 93 ∧ gR M 92 2 = some 94 ∨ gR M 92 1 = some 94 ∧ gR M 92 2 = some 93) ∧ ∀ t, gI M 33 t = 0 ∧ gI M 34 t = 0
theorem Inv.ib {M : Mem} (h : Inv M) : IB M := h.1
theorem Inv.it {M : Mem} (h : Inv M) : IT M := h.2.2.1
theorem Inv.is {M : Mem} (h : Inv M) : IS M := h.2.2.2.1
theorem Inv.ih {M : Mem} (h : Inv M) : IH M := h.2.2.2.2.1
theorem Inv.mk {M : Mem} (h1 : IB M) (h2 : gI M 21 2 = gI M 108 10 ∧ gI M 21 3 = gI M 108 11) (h3 : IT M) (h4 : IS M) (h5 : IH M) (h6 : Hasnt M ∨ Has M) : Inv M := ⟨h1, h2, h3, h4, h5, h6⟩
theorem IB.to {M M' : Mem} (h : IB M) (h1 : gI M' 1 1 = gI M 1 1) (h2 : gI M' 108 9 = gI M 108 9) (h3 : gI M' 2 = gI M 2) (h4 : gI M' 114 = gI M 114) : IB M' := by
  have p9 : pn (gI M' 108) 9 = pn (gI M 108) 9 := by unfold pn; rw [h2]
  unfold IB
  rw [h1, h2, h3, h4, p9]
  exact h
theorem IT.to {M M' : Mem} (h : IT M) (h1 : gI M' 105 = gI M 105) (h2 : gI M' 108 31 = gI M 108 31) (h3 : gI M' 106 = gI M 106) (h4 : gI M' 123 = gI M 123) : IT M' := by
  have p9 : pn (gI M' 108) 31 = pn (gI M 108) 31 := by unfold pn; rw [h2]
  unfold IT
  rw [h1, h2, h3, h4, p9]
  exact h
theorem IS.to {M M' : Mem} (h : IS M) (h1 : gR M' 37 = gR M 37) : IS M' := by
  unfold IS
  rw [h1]
  exact h
theorem IH.to {M M' : Mem} (h : IH M) (h1 : gR M' 92 = gR M 92) (h2 : gI M' 33 = gI M 33) (h3 : gI M' 34 = gI M 34) : IH M' := by
  unfold IH
  rw [h1, h2, h3]
  exact h
theorem TX.it {M : Mem} {ds : List Nat} (h : TX M ds) (h2 : TY M ds) (hl : ds.length ≤ 114) : IT M := by
  have e : pn (gI M 108) 31 = ds.length := by
    unfold pn
    rw [h2.1, nI_clamp (by omega)]
  refine ⟨rfl, by rw [h.1, h2.1], by rw [e]; exact h2.1, by omega, fun i hi => ?_⟩
  rw [e] at hi
  rw [h.2 i hi, h2.2 i hi]

