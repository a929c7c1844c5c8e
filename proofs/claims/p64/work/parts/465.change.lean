/-! a change: kept by class and reference -/
theorem RS.same {P : Nat → Int32} {M M' : Mem} {o : Nat} {S : Nat → Int32} (h : RS P M o S) (hk : ∀ i, i < 6 → gI M' (o + i) = gI M (o + i)) : RS P M' o S := by
  have h0 : gI M' o = gI M o := hk 0 (by decide)
  unfold RS
  rw [h0, hk 1 (by decide), hk 2 (by decide), hk 3 (by decide), hk 4 (by decide), hk 5 (by decide)]
  exact h
theorem RP.same {P : Nat → Int32} {M M' : Mem} (h : RP P M 3) (hk : ∀ o, 3 ≤ o → o ≤ 9 → gI M' o = gI M o) : RP P M' 3 := by
  unfold RP
  rw [hk 3 (by decide) (by decide), hk (3 + 1) (by decide) (by decide), hk (3 + 2) (by decide) (by decide), hk (3 + 3) (by decide) (by decide), hk (3 + 4) (by decide) (by decide), hk (3 + 5) (by decide) (by decide), hk (3 + 6) (by decide) (by decide)]
  exact h
theorem hasStk {M : Mem} (h : Has M) : ∃ rot n, rot < 7 ∧ n ≤ 7 ∧ gI M 35 0 = nI n ∧ gI M 108 4 = nI n ∧ RoT M rot ∧ ∀ k, k < n → VS (gI M 112) (fun i => gI M 110 (54 * (1 + k) + i)) ∧ RS (gI M 112) M (38 + 6 * ((rot + k) % 7)) (fun i => gI M 110 (54 * (1 + k) + i)) := by
  obtain ⟨h1, h2, h3, h4, h5, ⟨a1, a2, a3⟩, ⟨rot, r1, r2, r3⟩, h8, h9⟩ := h
  exact ⟨rot, pn (gI M 108) 4, r1, a3, a1.trans a2, a2, r2, r3⟩
theorem shf_cases (n : Nat) (h : n ≤ 7) : (n = 7 ∧ shf n = 1) ∨ (n < 7 ∧ shf n = 0) := by
  by_cases c : n = 7
  · exact Or.inl ⟨c, if_pos c⟩
  · exact Or.inr ⟨by omega, if_neg c⟩
theorem hasChg {M M' : Mem} (h : Has M) {rot n : Nat} (h7 : n ≤ 7) (hst : ∀ k, k < n → VS (gI M 112) (fun i => gI M 110 (54 * (1 + k) + i)) ∧ RS (gI M 112) M (38 + 6 * ((rot + k) % 7)) (fun i => gI M 110 (54 * (1 + k) + i)))
    (c1 : gI M' 108 1 = nI 1) (c2 : gI M' 112 = gI M 112) (c3 : ∀ o, 3 ≤ o → o ≤ 9 → gI M' o = gI M o) (c4 : VS (gI M 112) (gI M' 109)) (c5 : RS (gI M 112) M' 10 (gI M' 109))
    (c6 : RoT M' (rot + shf n)) (c7 : gI M' 35 0 = nI (n - shf n + 1)) (c8 : gI M' 35 3 = gI M 35 3) (c9 : gI M' 108 4 = nI (n - shf n + 1))
    (c10 : ∀ o, 38 ≤ o → o < 80 → o ∉ blk (38 + 6 * ((rot + n) % 7)) → gI M' o = gI M o) (c11 : cpd M' (38 + 6 * ((rot + n) % 7)) M 10)
    (c12 : ∀ k, k < n - shf n → ∀ i, i < 54 → gI M' 110 (54 * (1 + k) + i) = gI M 110 (54 * (1 + (k + shf n)) + i)) (c13 : ∀ i, i < 54 → gI M' 110 (54 * (1 + (n - shf n)) + i) = gI M 109 i) (c14 : ∀ j, 432 ≤ j → gI M' 110 j = gI M 110 j)
    (c15 : gI M' 111 = gI M 111) (c16 : ∀ o, 80 ≤ o → o < 92 → gI M' o = gI M o) (c17 : gI M' 96 = gI M 96 ∧ gL M' 97 = gL M 97 ∧ gL M' 98 = gL M 98) : Has M' := by
  have hN := h.N
  have hz := h.z
  have hs := shf_cases n h7
  have e4 : pn (gI M' 108) 4 = n - shf n + 1 := by
    unfold pn
    rw [c9, nI_clamp (by omega)]
  obtain ⟨h1, h2, h3, h4, h5, _, _, ⟨q, q1, q2, q3⟩, h9⟩ := h
  refine ⟨c1, by rw [c2]; exact h2, by rw [c2]; exact h3.same c3, by rw [c2]; exact c4, by rw [c2]; exact c5, ⟨c7.trans c9.symm, by rw [e4]; exact c9, by rw [e4]; omega⟩, ⟨(rot + shf n) % 7, Nat.mod_lt _ (by decide), fun k hk => ?_, ?_⟩, ⟨q, q1, by rw [c8]; exact q2, ?_⟩, ?_⟩
  · rw [c6 k hk, show ((rot + shf n) % 7 + k) % 7 = (rot + shf n + k) % 7 by omega]
  · rw [e4, c2]
    intro k hk
    rw [show ((rot + shf n) % 7 + k) % 7 = (rot + shf n + k) % 7 by omega]
    by_cases c : k = n - shf n
    · have e7 : (rot + shf n + k) % 7 = (rot + n) % 7 := by omega
      rw [e7, c]
      exact ⟨h4.congr hN.2 hz.2.1 c13, (h5.cpd hN.2 c11).congr hN.2 hz.2.1 c13⟩
    · obtain ⟨a, b⟩ := hst (k + shf n) (by omega)
      rw [show rot + (k + shf n) = rot + shf n + k by omega] at b
      have hk2 := c12 k (by omega)
      refine ⟨a.congr hN.2 hz.2.1 hk2, (b.same (fun i hi => c10 _ (by omega) (by omega) (fun z => ?_))).congr hN.2 hz.2.1 hk2⟩
      have := blk_in.mp z
      omega
  · rw [c15, c2]
    intro z hz2
    obtain ⟨a, b⟩ := q3 z hz2
    refine ⟨a, fun y => ⟨(b y).1.congr hN.2 hz.2.1 (fun i hi => c14 _ (by omega)), ((b y).2.same (fun i hi => c16 _ (by omega) (by omega))).congr hN.2 hz.2.1 (fun i hi => c14 _ (by omega))⟩⟩
  · rw [c2]
    unfold Cache
    rw [c17.1, c17.2.1, c17.2.2]
    exact h9
def lC9 : List Nat := [10, 11, 12, 13, 14, 15, 16, 17, 18, 104]
def lR : List Nat := [109, 116]
theorem lC_in {o : Nat} : o ∈ lC9 ↔ (10 ≤ o ∧ o ≤ 18) ∨ o = 104 := by
  unfold lC9
  simp only [List.mem_cons, List.not_mem_nil, or_false]
  omega
theorem lR_in {o : Nat} : o ∈ lR ↔ o = 109 ∨ o = 116 := by
  unfold lR
  simp only [List.mem_cons, List.not_mem_nil, or_false]
