/-! takeBest -/
def lX : List Nat := [109, 110, 116, 121, 122]
theorem lX_in {o : Nat} : o ∈ lX ↔ o = 109 ∨ o = 110 ∨ o = 116 ∨ o = 121 ∨ o = 122 := by
  unfold lX
  simp only [List.mem_cons, List.not_mem_nil, or_false]
theorem lX_R {o : Nat} (h : o ∉ lX) : o ∉ lR := fun z => h (by
  rw [lX_in]
  have := lR_in.mp z
  omega)
/-- .. where the reference first tried what it takes back -/
theorem changeG {Z : Nat} (hZ : 4000 < Z) {M : Mem} (hI : Inv M) (h : Has M) : ∃ M1, f_X3_keep Z M = some ((), M1) ∧ (∀ o, o ≠ 35 → o ≠ 36 → (o < 38 ∨ 80 ≤ o) → gI M1 o = gI M o ∧ gL M1 o = gL M o ∧ gR M1 o = gR M o) ∧
    ∀ M3 v, (∀ o, o ≠ 108 → o ≠ 124 → o ∉ lC → o ∉ lX → gI M3 o = gI M1 o ∧ gL M3 o = gL M1 o ∧ gR M3 o = gR M1 o) → (∀ i, i < 54 → gI M3 109 i = gI M1 109 i) → (∀ j, 54 ≤ j → gI M3 110 j = gI M1 110 j) → (∀ k, k ≠ 0 → k ≠ 28 → gI M3 108 k = gI M1 108 k) → gI M3 108 0 = 0 → gL M3 124 0 = v → ∃ M4, f_X12_keepsAll Z M3 = some ((), M4) ∧ f4 [110] M3 M4 ∧
      ∀ M5, fr lR M4 M5 → VS (gI M 112) (gI M5 109) → RS (gI M 112) M5 10 (gI M5 109) → Inv M5 ∧ gI M5 108 0 = 0 ∧ gL M5 124 0 = v := by
  obtain ⟨rot, n, hr, h7, hn, hn8, hro, hst⟩ := hasStk h
  have hs := shf_cases n h7
  obtain ⟨_, M1, e1, f1, r1, g1, g2, cp⟩ := keep_ok (Z := Z) (by omega) hro hn h7
  have hm7 : (rot + n) % 7 < 7 := Nat.mod_lt _ (by decide)
  have n1 : ∀ o, o ≠ 35 → o ≠ 36 → o ∉ blk (38 + 6 * ((rot + n) % 7)) → o ∉ [35, 36] ++ blk (38 + 6 * ((rot + n) % 7)) := fun o a b c z => by
    rcases List.mem_append.mp z with y | y
    · simp only [List.mem_cons, List.not_mem_nil, or_false] at y
      omega
    · exact c y
  have n2 : ∀ o, (o < 38 ∨ 80 ≤ o) → o ∉ blk (38 + 6 * ((rot + n) % 7)) := fun o ho z => by
    have := blk_in.mp z
    omega
  have m1 : ∀ o, o ≠ 35 → o ≠ 36 → (o < 38 ∨ 80 ≤ o) → gI M1 o = gI M o ∧ gL M1 o = gL M o ∧ gR M1 o = gR M o := fun o a b c => f1 o (n1 o a b (n2 o c))
  refine ⟨M1, e1, m1, fun M3 v m2 y109 y110 y108 y0 yv => ?_⟩
  have m8 : ∀ k, k ≠ 0 → k ≠ 28 → gI M3 108 k = gI M 108 k := fun k hk hk2 => by
    rw [y108 k hk hk2, (m1 108 (by decide) (by decide) (by decide)).1]
  obtain ⟨_, M4, e4, f4', g4, t4, u4, w4⟩ := keepsAll_ok (Z := Z) (by omega) (M := M3) (n := n) (by rw [m8 4 (by decide) (by decide)]; exact hn8) h7
  refine ⟨M4, e4, f4', fun M5 f5 hV hR => ?_⟩
  have p110 : ∀ j, 54 ≤ j → gI M3 110 j = gI M 110 j := fun j hj => by
    rw [y110 j hj, (m1 110 (by decide) (by decide) (by decide)).1]
  have p109 : ∀ i, i < 54 → gI M3 109 i = gI M 109 i := fun i hi => by
    rw [y109 i hi, (m1 109 (by decide) (by decide) (by decide)).1]
  have q110 : gI M5 110 = gI M4 110 := f5.I (by decide)
  -- objects that are as in M1
  have m5 : ∀ o, o ≠ 108 → o ≠ 124 → o ≠ 110 → o ∉ lC → o ∉ lX → gI M5 o = gI M1 o ∧ gL M5 o = gL M1 o ∧ gR M5 o = gR M1 o := fun o a b c d e => by
    have e2 := lX_R e
    rw [f5.I e2, f5.L e2, f5.R e2]
    obtain ⟨x1, x2, x3⟩ := f4'.1 o (fun z => c (List.mem_singleton.mp z)) a
    rw [x1, x2, x3]
    exact m2 o a b d e
  have m6 : ∀ o, o ≠ 108 → o ≠ 124 → o ≠ 110 → o ∉ lC → o ∉ lX → o ≠ 35 → o ≠ 36 → (o < 38 ∨ 80 ≤ o) → gI M5 o = gI M o ∧ gL M5 o = gL M o ∧ gR M5 o = gR M o := fun o a b c d e a2 b2 c2 => by
    obtain ⟨x1, x2, x3⟩ := m5 o a b c d e
    rw [x1, x2, x3]
    exact m1 o a2 b2 c2
  have m9 : ∀ k, k ≠ 0 → k ≠ 4 → k ≠ 28 → gI M5 108 k = gI M 108 k := fun k h0 h4 h28 => by
    rw [f5.I (by decide), f4'.2.1 k h4, m8 k h0 h28]
  have hHas : Has M5 := by
    refine hasChg h (rot := rot) (n := n) h7 hst ?_ ?_ (fun o a b => ?_) hV hR ?_ ?_ ?_ ?_ (fun o a b c => ?_) ?_ (fun k hk i hi => ?_) (fun i hi => ?_) (fun j hj => ?_) ?_ (fun o a b => ?_) ⟨?_, ?_, ?_⟩
    · rw [m9 1 (by decide) (by decide) (by decide)]
      exact h.1
    · exact (m6 112 (by decide) (by decide) (by decide) (by decide) (by decide) (by decide) (by decide) (by decide)).1
    · exact (m6 o (by omega) (by omega) (by omega) (by rw [lC_in]; omega) (by rw [lX_in]; omega) (by omega) (by omega) (by omega)).1
    · exact r1.to (m5 36 (by decide) (by decide) (by decide) (by decide) (by decide)).2.2
    · rw [(m5 35 (by decide) (by decide) (by decide) (by decide) (by decide)).1]
      exact g1
    · rw [(m5 35 (by decide) (by decide) (by decide) (by decide) (by decide)).1]
      exact g2
    · rw [f5.I (by decide)]
      exact g4
    · rw [(m5 o (by omega) (by omega) (by omega) (by rw [lC_in]; omega) (by rw [lX_in]; omega)).1]
      exact f1.I (n1 o (by omega) (by omega) c)
    · obtain ⟨b1, b2, b3, b4, b5, b6⟩ := cp
      have w : ∀ i, i < 6 → gI M5 (38 + 6 * ((rot + n) % 7) + i) = gI M1 (38 + 6 * ((rot + n) % 7) + i) := fun i hi => (m5 _ (by omega) (by omega) (by omega) (by rw [lC_in]; omega) (by rw [lX_in]; omega)).1
      have w0 : gI M5 (38 + 6 * ((rot + n) % 7)) = gI M1 (38 + 6 * ((rot + n) % 7)) := w 0 (by decide)
      refine ⟨fun k h1 h2 => ?_, fun k hk => ?_, fun k hk => ?_, fun k hk => ?_, fun k hk => ?_, fun k hk => ?_⟩
      · rw [w0]; exact b1 k h1 h2
      · rw [w 1 (by decide)]; exact b2 k hk
      · rw [w 2 (by decide)]; exact b3 k hk
      · rw [w 3 (by decide)]; exact b4 k hk
      · rw [w 4 (by decide)]; exact b5 k hk
      · rw [w 5 (by decide)]; exact b6 k hk
    · rw [q110, t4 k hk i hi, p110 _ (by omega)]
    · rw [q110, u4 i hi, p109 i hi]
    · rw [q110, w4 j hj, p110 j (by omega)]
    · exact (m6 111 (by decide) (by decide) (by decide) (by decide) (by decide) (by decide) (by decide) (by decide)).1
    · exact (m6 o (by omega) (by omega) (by omega) (by rw [lC_in]; omega) (by rw [lX_in]; omega) (by omega) (by omega) (by omega)).1
    · exact (m6 96 (by decide) (by decide) (by decide) (by decide) (by decide) (by decide) (by decide) (by decide)).1
    · exact (m6 97 (by decide) (by decide) (by decide) (by decide) (by decide) (by decide) (by decide) (by decide)).2.1
    · exact (m6 98 (by decide) (by decide) (by decide) (by decide) (by decide) (by decide) (by decide) (by decide)).2.1
  have u : ∀ o, o ∈ [1, 2, 21, 33, 34, 37, 92, 105, 106, 114, 123] → gI M5 o = gI M o ∧ gL M5 o = gL M o ∧ gR M5 o = gR M o := fun o ho => by
    refine m6 o ?_ ?_ ?_ ?_ ?_ ?_ ?_ ?_
    all_goals
      simp only [List.mem_cons, List.not_mem_nil, or_false] at ho
      first
        | omega
        | (rw [lC_in]; omega)
        | (rw [lX_in]; omega)
  refine ⟨Inv.mk (hI.ib.to (by rw [(u 1 (by decide)).1]) (m9 9 (by decide) (by decide) (by decide)) (u 2 (by decide)).1 (u 114 (by decide)).1) (by rw [(u 21 (by decide)).1, m9 10 (by decide) (by decide) (by decide), m9 11 (by decide) (by decide) (by decide)]; exact hI.2.1) (hI.it.to (u 105 (by decide)).1 (m9 31 (by decide) (by decide) (by decide)) (u 106 (by decide)).1 (u 123 (by decide)).1) (hI.is.to (u 37 (by decide)).2.2) (hI.ih.to (u 92 (by decide)).2.2 (u 33 (by decide)).1 (u 34 (by decide)).1) (Or.inr hHas), ?_, ?_⟩
  · rw [f5.I (by decide), f4'.2.1 0 (by decide)]
    exact y0
  · rw [f5.L (by decide), (f4'.1 124 (by decide) (by decide)).2.1]
    exact yv
