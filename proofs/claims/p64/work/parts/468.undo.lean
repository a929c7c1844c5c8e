/-! undo, save, restore -/
theorem hasBack {M M' : Mem} (h : Has M) {rot n n' : Nat} (hr : rot < 7) (h7 : n ≤ 7) (hn' : n' ≤ n) (hro : RoT M rot) (hst : ∀ k, k < n → VS (gI M 112) (fun i => gI M 110 (54 * (1 + k) + i)) ∧ RS (gI M 112) M (38 + 6 * ((rot + k) % 7)) (fun i => gI M 110 (54 * (1 + k) + i)))
    (c1 : gI M' 108 1 = nI 1) (c2 : gI M' 112 = gI M 112) (c3 : ∀ o, 3 ≤ o → o ≤ 9 → gI M' o = gI M o) (c4 : VS (gI M 112) (gI M' 109)) (c5 : RS (gI M 112) M' 10 (gI M' 109))
    (c6 : gR M' 36 = gR M 36) (c7 : gI M' 35 0 = nI n') (c8 : gI M' 35 3 = gI M 35 3) (c9 : gI M' 108 4 = nI n') (c10 : ∀ o, 38 ≤ o → o < 92 → gI M' o = gI M o) (c14 : gI M' 110 = gI M 110) (c15 : gI M' 111 = gI M 111) (c17 : gI M' 96 = gI M 96 ∧ gL M' 97 = gL M 97 ∧ gL M' 98 = gL M 98) : Has M' := by
  have e4 : pn (gI M' 108) 4 = n' := by
    unfold pn
    rw [c9, nI_clamp (by omega)]
  obtain ⟨h1, h2, h3, h4, h5, _, _, ⟨q, q1, q2, q3⟩, h9⟩ := h
  refine ⟨c1, by rw [c2]; exact h2, by rw [c2]; exact h3.same c3, by rw [c2]; exact c4, by rw [c2]; exact c5, ⟨c7.trans c9.symm, by rw [e4]; exact c9, by rw [e4]; omega⟩, ⟨rot, hr, (hro.to c6), ?_⟩, ⟨q, q1, by rw [c8]; exact q2, ?_⟩, ?_⟩
  · rw [e4, c2, c14]
    intro k hk
    obtain ⟨a, b⟩ := hst k (by omega)
    have hm7 : (rot + k) % 7 < 7 := Nat.mod_lt _ (by decide)
    exact ⟨a, b.same (fun i hi => c10 _ (by omega) (by omega))⟩
  · rw [c15, c2, c14]
    intro z hz2
    obtain ⟨a, b⟩ := q3 z hz2
    exact ⟨a, fun y => ⟨(b y).1, (b y).2.same (fun i hi => c10 _ (by omega) (by omega))⟩⟩
  · rw [c2]
    unfold Cache
    rw [c17.1, c17.2.1, c17.2.2]
    exact h9
def lU : List Nat := [10, 11, 12, 13, 14, 15, 35, 109, 124]
theorem lU_in {o : Nat} : o ∈ lU ↔ (10 ≤ o ∧ o ≤ 15) ∨ o = 35 ∨ o = 109 ∨ o = 124 := by
  unfold lU
  simp only [List.mem_cons, List.not_mem_nil, or_false]
  omega
theorem blk10 : ∀ o, o ∈ blk 10 → o ∈ lU := fun o ho => by
  rw [lU_in]
  have := blk_in.mp ho
  omega
