/-! load -/
theorem VS.start {P S : Nat → Int32} (hV : VQ P) (hz : ∀ x, x < cN P → cM P x ≠ 0) (s0 : ∀ i, i < 3 → S i = P (2 + i)) (s3 : S 3 = -1) (s4 : ∀ i, i < 3 → S (40 + i) = P (5 + i)) (sr : ∀ y, y < 6 → ∀ a, a < 3 → (y < cN P ∧ a < cM P y → S (4 + (y * 3 + a)) = nI (wS P y a) ∧ S (22 + (y * 3 + a)) = nI 1) ∧ (¬ (y < cN P ∧ a < cM P y) → S (4 + (y * 3 + a)) = nI 0 ∧ S (22 + (y * 3 + a)) = nI 0)) : VS P S := by
  have hVV := hV
  obtain ⟨hW, ⟨c1, c2, c3⟩, hR, hL⟩ := hV
  have hN := hW.N
  have p2 := hW.1 2 (by decide) (by decide)
  have p3 := hW.1 3 (by decide) (by decide)
  have p4 := hW.1 4 (by decide) (by decide)
  have m3 : mxq 3 = 5 := by decide
  have m4 : mxq 4 = 30010 := by decide
  have e0 : pn S 0 = pn P 2 := by unfold pn; rw [s0 0 (by decide)]
  have e1 : pn S 1 = pn P 3 := by unfold pn; rw [s0 1 (by decide)]
  have e2 : pn S 2 = pn P 4 := by unfold pn; rw [s0 2 (by decide)]
  have w10 : ∀ y, y < 6 → ∀ a, a < 3 → wS P y a ≤ 10 := fun y hy a ha => by
    have := (hW.1 (326 + (y * 3 + a)) (by omega) (by omega)).2
    rw [mxW] at this
    unfold wS
    split
    · exact this
    · split <;> omega
  have sw : ∀ y, y < 6 → ∀ a, a < 3 → sW9 S (y * 3 + a) = if y < cN P ∧ a < cM P y then wS P y a else 0 := fun y hy a ha => by
    have := w10 y hy a ha
    unfold sW9
    rw [if_pos (by omega)]
    obtain ⟨r1, r2⟩ := sr y hy a ha
    by_cases c : y < cN P ∧ a < cM P y
    · rw [if_pos c]
      exact pn_n (r1 c).1 (by omega)
    · rw [if_neg c]
      exact pn_n (r2 c).1 (by decide)
  have dec : ∀ r, r < 18 → ∃ y a, y < 6 ∧ a < 3 ∧ r = y * 3 + a := fun r hr => ⟨r / 3, r % 3, by omega, by omega, by omega⟩
  have sr4 : ∀ r, r < 18 → S (4 + r) = nI (sW9 S r) ∧ sW9 S r ≤ 10 := fun r hr => by
    obtain ⟨y, a, hy, ha, rfl⟩ := dec r hr
    have := w10 y hy a ha
    rw [sw y hy a ha]
    obtain ⟨r1, r2⟩ := sr y hy a ha
    by_cases c : y < cN P ∧ a < cM P y
    · rw [if_pos c]
      exact ⟨(r1 c).1, this⟩
    · rw [if_neg c]
      exact ⟨(r2 c).1, by omega⟩
  -- the weights of a state, together
  have wz : ∀ y, y < cN P → ∀ a, a < 3 → cM P y ≤ a → wS P y a = 0 := fun y hy a ha hm => by
    have := hz y hy
    unfold wS
    rcases hL y (by omega) with ⟨q1, q2, q3⟩ | ⟨q1, q2⟩
    · rw [if_pos q1]
      exact q3 a ha hm
    · rw [if_neg (by rw [q1]; decide), if_neg (by omega)]
  have w3 : ∀ y, y < cN P → wS P y 0 + wS P y 1 + wS P y 2 = 10 := fun y hy => by
    unfold wS
    rcases hL y (by omega) with ⟨q1, q2, q3⟩ | ⟨q1, q2⟩
    · rw [if_pos q1, if_pos q1, if_pos q1]
      exact q2
    · have : ¬ P (320 + y) = nI 1 := by rw [q1]; decide
      rw [if_neg this, if_neg this, if_neg this]
      decide
  refine ⟨⟨?_, by rw [e0]; exact c2⟩, ⟨?_, by rw [e1]; exact c3, by rw [e1]; omega⟩, ⟨?_, by rw [e2]; omega⟩, fun r hr => (sr4 r hr).1, fun r => ?_, fun x hx => ⟨?_, fun a hm ha => ?_⟩, fun r hr => ?_, fun x hx => ⟨0, ?_, ?_⟩, fun b hb => ?_, Or.inl s3⟩
  · rw [e0, s0 0 (by decide)]
    exact p2.1
  · rw [e1, s0 1 (by decide)]
    exact p3.1
  · rw [e2, s0 2 (by decide)]
    exact p4.1
  · by_cases c : r < 18
    · exact (sr4 r c).2
    · unfold sW9
      rw [if_neg c]
      omega
  · have x6 : x < 6 := by omega
    have m3 := (hW.M x x6).2
    have m1 := hz x hx
    have t := w3 x hx
    have e : sm (cM P x) (fun a => sW9 S (x * 3 + a)) = sm (cM P x) (wS P x) := sm_congr (fun a ha => by
      show sW9 S (x * 3 + a) = _
      rw [sw x x6 a (by omega), if_pos ⟨hx, ha⟩])
    rw [e]
    have z1 := wz x hx 1 (by decide)
    have z2 := wz x hx 2 (by decide)
    have cc : cM P x = 1 ∨ cM P x = 2 ∨ cM P x = 3 := by omega
    rcases cc with c | c | c
    · rw [c] at z1 z2 ⊢
      have := z1 (by decide)
      have := z2 (by decide)
      show 0 + wS P x 0 = 10
      omega
    · rw [c] at z2 ⊢
      have := z2 (by decide)
      show 0 + wS P x 0 + wS P x 1 = 10
      omega
    · rw [c]
      show 0 + wS P x 0 + wS P x 1 + wS P x 2 = 10
      omega
  · rw [sw x (by omega) a ha, if_neg (by omega)]
  · obtain ⟨y, a, hy, ha, rfl⟩ := dec r hr
    obtain ⟨r1, r2⟩ := sr y hy a ha
    by_cases c : y < cN P ∧ a < cM P y
    · exact Or.inr (r1 c).2
    · exact Or.inl (r2 c).2
  · have := hz x hx
    omega
  · have := hz x hx
    have x6 : x < 6 := by omega
    exact ((sr x x6 0 (by decide)).1 ⟨hx, by omega⟩).2
  · have hb5 := hW.1 (5 + b) (by omega) (by omega)
    rw [mxL hb] at hb5
    have e : pn S (40 + b) = pn P (5 + b) := by unfold pn; rw [s4 b hb]
    rw [e, s4 b hb]
    exact hb5
theorem RS.start {P S : Nat → Int32} {M : Mem} (hV : VQ P) (hz : ∀ x, x < cN P → cM P x ≠ 0) (s0 : ∀ i, i < 3 → S i = P (2 + i)) (s3 : S 3 = -1) (s4 : ∀ i, i < 3 → S (40 + i) = P (5 + i)) (s5 : ∀ i, 43 ≤ i → i < 54 → S i = nI 0) (sr : ∀ y, y < 6 → ∀ a, a < 3 → (y < cN P ∧ a < cM P y → S (4 + (y * 3 + a)) = nI (wS P y a) ∧ S (22 + (y * 3 + a)) = nI 1) ∧ (¬ (y < cN P ∧ a < cM P y) → S (4 + (y * 3 + a)) = nI 0 ∧ S (22 + (y * 3 + a)) = nI 0)) (hq : CQ0 P M) (hw : CQW P M) (h33 : ∀ t, gI M 33 t = 0 ∧ gI M 34 t = 0) : RS P M 29 S := by
  obtain ⟨hW, ⟨c1, c2, c3⟩, hR, hL⟩ := hV
  have hN := hW.N
  obtain ⟨q1, ⟨q2, q3, q4, q5⟩, q6, q7, q8⟩ := hq
  refine ⟨⟨q2.trans (s0 0 (by decide)).symm, q3.trans (s0 1 (by decide)).symm, q4.trans (s0 2 (by decide)).symm, q5.trans s3.symm⟩, fun r hr => ?_, fun x hx => ⟨7, by decide, q7 x (by omega), fun a ha => ?_⟩, fun b hb => (q6 b hb).trans (s4 b hb).symm, fun t ht => ?_, fun t ht => ?_⟩
  · obtain ⟨y, a, hy, ha, rfl⟩ : ∃ y a, y < cN P ∧ a < 3 ∧ r = y * 3 + a := ⟨r / 3, r % 3, by omega, by omega, by omega⟩
    have := hz y hy
    obtain ⟨r1, r2⟩ := sr y (by omega) a ha
    have w := hw y (by omega) a ha
    show gI M 30 (y * 3 + a) = _
    rw [w]
    by_cases c : a < cM P y
    · rw [(r1 ⟨hy, c⟩).1]
      unfold wS
      by_cases d : P (320 + y) = nI 1
      · rw [if_pos d, if_pos d]
        exact (hW.1 (326 + (y * 3 + a)) (by omega) (by omega)).1
      · rw [if_neg d, if_neg d]
        split <;> rfl
    · rw [(r2 (fun z => c z.2)).1]
      rcases hL y (by omega) with ⟨g1, g2, g3⟩ | ⟨g1, g2⟩
      · rw [if_pos g1, (hW.1 (326 + (y * 3 + a)) (by omega) (by omega)).1, g3 a ha (by omega)]
      · rw [if_neg (by rw [g1]; decide), if_neg (by omega)]
  · have m3 := (hW.M x (by omega)).2
    rw [((sr x (by omega) a (by omega)).1 ⟨hx, ha⟩).2]
    have : a = 0 ∨ a = 1 ∨ a = 2 := by omega
    rcases this with c | c | c <;> (subst c; rfl)
  · show gI M 33 t = _
    rw [(h33 t).1, s5 _ (by omega) (by omega)]
    rfl
  · show gI M 34 t = _
    rw [(h33 t).2, s5 _ (by omega) (by omega)]
    rfl

