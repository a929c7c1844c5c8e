/-! a change: kept by class and reference -/
theorem RS.same {P : Nat → Int32} {M M' : Mem} {o : Nat} {S : Nat → Int32} (h : RS P M o S) (hk : ∀ i, i < 6 → gI M' (o + i) = gI M (o + i)) : RS P M' o S := by
  have h0 : gI M' o = gI M o := hk 0 (by decide)
  unfold RS
  rw [h0, hk 1 (by decide), hk 2 (by decide), hk 3 (by decide), hk 4 (by decide), hk 5 (by decide)]
  exact h
theorem RP.same {P : Nat → Int32} {M M' : Mem} (h : RP P M 3) (hk : ∀ o, 3 ≤ o → o ≤ 9 → gI M' o = gI M o) : RP P M' 3 := by
  unfold RP
  rw [hk 3 (by decide) (by decide), hk (3 + 1) (by decide) (by decide), hk (3 + 2) (by decide) (by decide), hk (3 + 3) (by decide) (by decide), hk (3 + 4) (by decide) (by decide), hk (3 + 5) (by decide) (by decide), hk (3 + 6) (by decide) (by decide)]
  exact h
theorem hasStk {M : Mem} (h : Has M) : ∃ rot n, rot < 7 ∧ n ≤ 7 ∧ gI M 35 0 = nI n ∧ gI M 108 4 = nI n ∧ RoT M rot ∧ ∀ k, k < n → VS (gI M 112) (fun i => gI M 110 (54 * (1 + k) + i)) ∧ RS (gI M 112) M (38 + 6 * ((rot + k) % 7)) (fun i => gI M 110 (54 * (1 + k) + i)) := by
  obtain ⟨h1, h2, h3, h4, h5, ⟨a1, a2, a3⟩, ⟨rot, r1, r2, r3⟩, h8, h9⟩ := h
  exact ⟨rot, pn (gI M 108) 4, r1, a3, a1.trans a2, a2, r2, r3⟩
theorem shf_cases (n : Nat) (h : n ≤ 7) : (n = 7 ∧ shf n = 1) ∨ (n < 7 ∧ shf n = 0) := by
  by_cases c : n = 7
  · exact Or.inl ⟨c, if_pos c⟩
  · exact Or.inr ⟨by omega, if_neg c⟩
theorem hasChg {M M' : Mem} (h : Has M) {rot n : Nat} (h7 : n ≤ 7) (hst : ∀ k, k < n → VS (gI M 112) (fun i => gI M 110 (54 * (1 + k) + i)) ∧ RS (gI M 112) M (38 + 6 * ((rot + k) % 7)) (fun i => gI M 110 (54 * (1 + k) + i)))
    (c1 : gI M' 108 1 = nI 1) (c2 : gI M' 112 = gI M 112) (c3 : ∀ o, 3 ≤ o → o ≤ 9 → gI M' o = gI M o) (c4 : VS (gI M 112) (gI M' 109)) (c5 : RS (gI M 112) M' 10 (gI M' 109))
    (c6 : RoT M' (rot + shf n)) (c7 : gI M' 35 0 = nI (n - shf n + 1)) (c8 : gI M' 35 3 = gI M 35 3) (c9 : gI M' 108 4 = nI (n - shf n + 1))
    (c10 : ∀ o, 38 ≤ o → o < 80 → o ∉ blk (38 + 6 * ((rot + n) % 7)) → gI M' o = gI M o) (c11 : cpd M' (38 + 6 * ((rot + n) % 7)) M 10)
    (c12 : ∀ k, k < n - shf n → ∀ i, i < 54 → gI M' 110 (54 * (1 + k) + i) = gI M 110 (54 * (1 + (k + shf n)) + i)) (c13 : ∀ i, i < 54 → gI M' 110 (54 * (1 + (n - shf n)) + i) = gI M 109 i) (c14 : ∀ j, 432 ≤ j → gI M' 110 j = gI M 110 j)
    (c15 : gI M' 111 = gI M 111) (c16 : ∀ o, 80 ≤ o → o < 92 → gI M' o = gI M o) (c17 : gI M' 96 = gI M 96 ∧ gL M' 97 = gL M 97 ∧ gL M' 98 = gL M 98) : Has M' := by
  have hN := h.N
  have hz := h.z
  have hs := shf_cases n h7
  have e4 : pn (gI M' 108) 4 = n - shf n + 1 := by
    unfold pn
    rw [c9, nI_clamp (by omega)]
  obtain ⟨h1, h2, h3, h4, h5, _, _, ⟨q, q1, q2, q3⟩, h9⟩ := h
  refine ⟨c1, by rw [c2]; exact h2, by rw [c2]; exact h3.same c3, by rw [c2]; exact c4, by rw [c2]; exact c5, ⟨c7.trans c9.symm, by rw [e4]; exact c9, by rw [e4]; omega⟩, ⟨(rot + shf n) % 7, Nat.mod_lt _ (by decide), fun k hk => ?_, ?_⟩, ⟨q, q1, by rw [c8]; exact q2, ?_⟩, ?_⟩
  · rw [c6 k hk, show ((rot + shf n) % 7 + k) % 7 = (rot + shf n + k) % 7 by omega]
  · rw [e4, c2]
    intro k hk
    rw [show ((rot + shf n) % 7 + k) % 7 = (rot + shf n + k) % 7 by omega]
    by_cases c : k = n - shf n
    · have e7 : (rot + shf n + k) % 7 = (rot + n) % 7 := by omega
      rw [e7, c]
      exact ⟨h4.congr hN.2 hz.2.1 c13, (h5.cpd hN.2 c11).congr hN.2 hz.2.1 c13⟩
    · obtain ⟨a, b⟩ := hst (k + shf n) (by omega)
      rw [show rot + (k + shf n) = rot + shf n + k by omega] at b
      have hk2 := c12 k (by omega)
      refine ⟨a.congr hN.2 hz.2.1 hk2, (b.same (fun i hi => c10 _ (by omega) (by omega) (fun z => ?_))).congr hN.2 hz.2.1 hk2⟩
      have := blk_in.mp z
      omega
  · rw [c15, c2]
    intro z hz2
    obtain ⟨a, b⟩ := q3 z hz2
    refine ⟨a, fun y => ⟨(b y).1.congr hN.2 hz.2.1 (fun i hi => c14 _ (by omega)), ((b y).2.same (fun i hi => c16 _ (by omega) (by omega))).congr hN.2 hz.2.1 (fun i hi => c14 _ (by omega))⟩⟩
  · rw [c2]
    unfold Cache
    rw [c17.1, c17.2.1, c17.2.2]
    exact h9
def lC : List Nat := [10, 11, 12, 13, 14, 15, 16, 17, 18, 104]
def lR : List Nat := [109, 116]
theorem lC_in {o : Nat} : o ∈ lC ↔ (10 ≤ o ∧ o ≤ 18) ∨ o = 104 := by
  unfold lC
  simp only [List.mem_cons, List.not_mem_nil, or_false]
  omega
theorem lR_in {o : Nat} : o ∈ lR ↔ o = 109 ∨ o = 116 := by
  unfold lR
  simp only [List.mem_cons, List.not_mem_nil, or_false]
/-- the class keeps the settings (M1), changes its own (M2); the reference, behind that, keeps and changes its own (M5) -/
theorem change {Z : Nat} (hZ : 4000 < Z) {M : Mem} (hI : Inv M) (h : Has M) : ∃ M1, f_X3_keep Z M = some ((), M1) ∧ (∀ o, o ≠ 35 → o ≠ 36 → (o < 38 ∨ 80 ≤ o) → gI M1 o = gI M o ∧ gL M1 o = gL M o ∧ gR M1 o = gR M o) ∧
    ∀ M2 v, fr lC M1 M2 → ∃ M4, f_X12_keepsAll Z (T0 (sL M2 124 0 v)) = some ((), M4) ∧ f4 [110] (T0 (sL M2 124 0 v)) M4 ∧
      ∀ M5, fr lR M4 M5 → VS (gI M 112) (gI M5 109) → RS (gI M 112) M5 10 (gI M5 109) → Inv M5 ∧ gI M5 108 0 = 0 ∧ gL M5 124 0 = v := by
  obtain ⟨rot, n, hr, h7, hn, hn8, hro, hst⟩ := hasStk h
  have hs := shf_cases n h7
  obtain ⟨_, M1, e1, f1, r1, g1, g2, cp⟩ := keep_ok (Z := Z) (by omega) hro hn h7
  have hm7 : (rot + n) % 7 < 7 := Nat.mod_lt _ (by decide)
  have n1 : ∀ o, o ≠ 35 → o ≠ 36 → o ∉ blk (38 + 6 * ((rot + n) % 7)) → o ∉ [35, 36] ++ blk (38 + 6 * ((rot + n) % 7)) := fun o a b c z => by
    rcases List.mem_append.mp z with y | y
    · simp only [List.mem_cons, List.not_mem_nil, or_false] at y
      omega
    · exact c y
  have n2 : ∀ o, (o < 38 ∨ 80 ≤ o) → o ∉ blk (38 + 6 * ((rot + n) % 7)) := fun o ho z => by
    have := blk_in.mp z
    omega
  have m1 : ∀ o, o ≠ 35 → o ≠ 36 → (o < 38 ∨ 80 ≤ o) → gI M1 o = gI M o ∧ gL M1 o = gL M o ∧ gR M1 o = gR M o := fun o a b c => f1 o (n1 o a b (n2 o c))
  refine ⟨M1, e1, m1, fun M2 v f2 => ?_⟩
  have m2 : ∀ o, o ≠ 108 → o ≠ 124 → o ∉ lC → gI (T0 (sL M2 124 0 v)) o = gI M1 o ∧ gL (T0 (sL M2 124 0 v)) o = gL M1 o ∧ gR (T0 (sL M2 124 0 v)) o = gR M1 o := fun o a b c => by
    rw [T0_I a, T0_L, T0_R, gI_sL', gR_sL', gL_sL', if_neg b]
    exact f2 o c
  have m8 : ∀ k, k ≠ 0 → gI (T0 (sL M2 124 0 v)) 108 k = gI M 108 k := fun k hk => by
    unfold T0
    rw [gI_sI, if_neg (fun z => hk z.2), gI_sL', f2.I (by decide), (m1 108 (by decide) (by decide) (by decide)).1]
  obtain ⟨_, M4, e4, f4', g4, t4, u4, w4⟩ := keepsAll_ok (Z := Z) (by omega) (M := T0 (sL M2 124 0 v)) (n := n) (by rw [m8 4 (by decide)]; exact hn8) h7
  refine ⟨M4, e4, f4', fun M5 f5 hV hR => ?_⟩
  have p110 : ∀ j, gI (T0 (sL M2 124 0 v)) 110 j = gI M 110 j := fun j => by
    rw [(m2 110 (by decide) (by decide) (by decide)).1, (m1 110 (by decide) (by decide) (by decide)).1]
  have p109 : gI (T0 (sL M2 124 0 v)) 109 = gI M 109 := by
    rw [(m2 109 (by decide) (by decide) (by decide)).1, (m1 109 (by decide) (by decide) (by decide)).1]
  have q110 : gI M5 110 = gI M4 110 := f5.I (by decide)
  -- objects that are as in M1
  have m5 : ∀ o, o ≠ 108 → o ≠ 124 → o ≠ 110 → o ∉ lC → o ∉ lR → gI M5 o = gI M1 o ∧ gL M5 o = gL M1 o ∧ gR M5 o = gR M1 o := fun o a b c d e => by
    rw [f5.I e, f5.L e, f5.R e]
    obtain ⟨x1, x2, x3⟩ := f4'.1 o (fun z => c (List.mem_singleton.mp z)) a
    rw [x1, x2, x3]
    exact m2 o a b d
  have m6 : ∀ o, o ≠ 108 → o ≠ 124 → o ≠ 110 → o ∉ lC → o ∉ lR → o ≠ 35 → o ≠ 36 → (o < 38 ∨ 80 ≤ o) → gI M5 o = gI M o ∧ gL M5 o = gL M o ∧ gR M5 o = gR M o := fun o a b c d e a2 b2 c2 => by
    obtain ⟨x1, x2, x3⟩ := m5 o a b c d e
    rw [x1, x2, x3]
    exact m1 o a2 b2 c2
  have m9 : ∀ k, k ≠ 0 → k ≠ 4 → gI M5 108 k = gI M 108 k := fun k h0 h4 => by
    rw [f5.I (by decide), f4'.2.1 k h4, m8 k h0]
  have hHas : Has M5 := by
    refine hasChg h (rot := rot) (n := n) h7 hst ?_ ?_ (fun o a b => ?_) hV hR ?_ ?_ ?_ ?_ (fun o a b c => ?_) ?_ (fun k hk i hi => ?_) (fun i hi => ?_) (fun j hj => ?_) ?_ (fun o a b => ?_) ⟨?_, ?_, ?_⟩
    · rw [m9 1 (by decide) (by decide)]
      exact h.1
    · exact (m6 112 (by decide) (by decide) (by decide) (by decide) (by decide) (by decide) (by decide) (by decide)).1
    · exact (m6 o (by omega) (by omega) (by omega) (by rw [lC_in]; omega) (by rw [lR_in]; omega) (by omega) (by omega) (by omega)).1
    · exact r1.to (m5 36 (by decide) (by decide) (by decide) (by decide) (by decide)).2.2
    · rw [(m5 35 (by decide) (by decide) (by decide) (by decide) (by decide)).1]
      exact g1
    · rw [(m5 35 (by decide) (by decide) (by decide) (by decide) (by decide)).1]
      exact g2
    · rw [f5.I (by decide)]
      exact g4
    · rw [(m5 o (by omega) (by omega) (by omega) (by rw [lC_in]; omega) (by rw [lR_in]; omega)).1]
      exact f1.I (n1 o (by omega) (by omega) c)
    · obtain ⟨b1, b2, b3, b4, b5, b6⟩ := cp
      have w : ∀ i, i < 6 → gI M5 (38 + 6 * ((rot + n) % 7) + i) = gI M1 (38 + 6 * ((rot + n) % 7) + i) := fun i hi => (m5 _ (by omega) (by omega) (by omega) (by rw [lC_in]; omega) (by rw [lR_in]; omega)).1
      have w0 : gI M5 (38 + 6 * ((rot + n) % 7)) = gI M1 (38 + 6 * ((rot + n) % 7)) := w 0 (by decide)
      refine ⟨fun k h1 h2 => ?_, fun k hk => ?_, fun k hk => ?_, fun k hk => ?_, fun k hk => ?_, fun k hk => ?_⟩
      · rw [w0]; exact b1 k h1 h2
      · rw [w 1 (by decide)]; exact b2 k hk
      · rw [w 2 (by decide)]; exact b3 k hk
      · rw [w 3 (by decide)]; exact b4 k hk
      · rw [w 4 (by decide)]; exact b5 k hk
      · rw [w 5 (by decide)]; exact b6 k hk
    · rw [q110, t4 k hk i hi, p110]
    · rw [q110, u4 i hi, p109]
    · rw [q110, w4 j hj, p110]
    · exact (m6 111 (by decide) (by decide) (by decide) (by decide) (by decide) (by decide) (by decide) (by decide)).1
    · exact (m6 o (by omega) (by omega) (by omega) (by rw [lC_in]; omega) (by rw [lR_in]; omega) (by omega) (by omega) (by omega)).1
    · exact (m6 96 (by decide) (by decide) (by decide) (by decide) (by decide) (by decide) (by decide) (by decide)).1
    · exact (m6 97 (by decide) (by decide) (by decide) (by decide) (by decide) (by decide) (by decide) (by decide)).2.1
    · exact (m6 98 (by decide) (by decide) (by decide) (by decide) (by decide) (by decide) (by decide) (by decide)).2.1
  have u : ∀ o, o ∈ [1, 2, 21, 33, 34, 37, 92, 105, 106, 114, 123] → gI M5 o = gI M o ∧ gL M5 o = gL M o ∧ gR M5 o = gR M o := fun o ho => by
    refine m6 o ?_ ?_ ?_ ?_ ?_ ?_ ?_ ?_
    all_goals
      simp only [List.mem_cons, List.not_mem_nil, or_false] at ho
      first
        | omega
        | (rw [lC_in]; omega)
        | (rw [lR_in]; omega)
  refine ⟨Inv.mk (hI.ib.to (by rw [(u 1 (by decide)).1]) (m9 9 (by decide) (by decide)) (u 2 (by decide)).1 (u 114 (by decide)).1) (by rw [(u 21 (by decide)).1, m9 10 (by decide) (by decide), m9 11 (by decide) (by decide)]; exact hI.2.1) (hI.it.to (u 105 (by decide)).1 (m9 31 (by decide) (by decide)) (u 106 (by decide)).1 (u 123 (by decide)).1) (hI.is.to (u 37 (by decide)).2.2) (hI.ih.to (u 92 (by decide)).2.2 (u 33 (by decide)).1 (u 34 (by decide)).1) (Or.inr hHas), ?_, ?_⟩
  · rw [f5.I (by decide), f4'.2.1 0 (by decide)]
    exact T0_0
  · rw [f5.L (by decide), (f4'.1 124 (by decide) (by decide)).2.1, T0_L, gL_sL, if_pos ⟨rfl, rfl⟩]
