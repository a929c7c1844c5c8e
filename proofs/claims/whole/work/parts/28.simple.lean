theorem Has.b {M : Mem} (h : Has M) : gI M 3 1 = nI (cB (gI M 112)) ∧ gI M 112 1 = nI (cB (gI M 112)) ∧ cB (gI M 112) ≤ 3 := ⟨h.2.2.1.2.1.trans h.2.1.b, h.2.1.b, h.2.1.2.1.2.2⟩
/-- the branch of a case that answers: the class's answer v, laid into the row, and the reference's w -/
def OKc {α β : Type} (x : Option (Except Nat α × Mem)) (y : Mem → Option (β × Mem)) (cv : α → Int64) (cw : β → Int64) : Prop := ∃ v w M1 M2, x = some (.ok v, M1) ∧ y (sL M1 124 0 (cv v)) = some (w, M2) ∧ Inv M2 ∧ gI M2 108 0 = 0 ∧ gL M2 124 0 = cw w
theorem Has.out {M : Mem} {v : Int64} (h : Has M) : Has (sL M 124 0 v) := h.kp out_kp
theorem ok_actions {Z : Nat} (_ : 4000 < Z) {M : Mem} (hI : Inv M) (h : Has M) {x : Nat} (hx : x < cN (gI M 112)) : OKc (f_X11_actions Z M (nI x)) (fun M => f_X12_actions Z M (nI x)) (·.toInt64) (·.toInt64) := by
  have hN := h.N
  refine ⟨gI M 4 x, gI M 112 (8 + x), M, T0 (sL M 124 0 (gI M 4 x).toInt64), ?_, ?_, hI.kp (out_kp.trans T0.kp), T0_0, ?_⟩
  · unfold f_X11_actions
    rw [needState1 h.c.1 hN, if_pos (inR_of hx (by omega)), clT_ok, rdI_n (by omega) (by decide)]
  · show f_X12_actions Z (sL M 124 0 (gI M 4 x).toInt64) (nI x) = _
    unfold f_X12_actions
    rw [noState1 (by exact h.1) (by exact h.r.1) hN.2, if_pos (inR_of hx (by omega)), cl_some, if_pos rfl, rd112 (c := 8 + nI x) (i := 8 + x) (by rw [i8, nI_add]) (by omega), T0_I (by decide)]
    rfl
  · rw [T0_L, gL_sL, if_pos ⟨rfl, rfl⟩, h.c.2.1 x (by omega), h.r.2.1 x (by omega)]
theorem ok_gain {Z : Nat} (_ : 4000 < Z) {M : Mem} (hI : Inv M) (h : Has M) {x y : Nat} (hx : x < cN (gI M 112)) (hy : y < cM (gI M 112) x) : OKc (f_X11_gain Z M (nI x) (nI y)) (fun M => f_X12_gain Z M (nI x) (nI y)) (·.toInt64) (·.toInt64) := by
  have hN := h.N
  have hm := h.z.2.1 x
  refine ⟨gI M 5 (x * 3 + y), gI M 112 (14 + (x * 3 + y)), M, T0 (sL M 124 0 (gI M 5 (x * 3 + y)).toInt64), ?_, ?_, hI.kp (out_kp.trans T0.kp), T0_0, ?_⟩
  · unfold f_X11_gain
    rw [needAction1 h.c h.z hN.1 hx, if_pos (inR_of hy (by omega)), clT_ok, rowOf_eq, cl_some, rdI_n (by omega) (by decide)]
  · show f_X12_gain Z (sL M 124 0 (gI M 5 (x * 3 + y)).toInt64) (nI x) (nI y) = _
    unfold f_X12_gain
    rw [noAction1 (by exact h.1) (by exact h.r) h.z hx, if_pos (inR_of hy (by omega)), cl_some, if_pos rfl]
    unfold f_X12_gainBy
    rw [rd112 (c := 14 + 3 * nI x + nI y) (i := 14 + (x * 3 + y)) (by rw [i14, i3, nI_mul, nI_add, nI_add, mc3, Nat.add_assoc]) (by omega), T0_I (by decide)]
    rfl
  · rw [T0_L, gL_sL, if_pos ⟨rfl, rfl⟩, show (5 : Nat) = 3 + 2 from rfl, h.2.2.1.2.2.2.1 _ (by omega)]
theorem ok_weight {Z : Nat} (_ : 4000 < Z) {M : Mem} (hI : Inv M) (h : Has M) {x y : Nat} (hx : x < cN (gI M 112)) (hy : y < cM (gI M 112) x) : OKc (f_X11_weight Z M (nI x) (nI y)) (fun M => f_X12_weight Z M (nI x) (nI y)) (·.toInt64) (·.toInt64) := by
  have hN := h.N
  have hm := h.z.2.1 x
  have hS := h.2.2.2.1.toSR (M := T0 (sL M 124 0 (gI M 11 (x * 3 + y)).toInt64)) (by rw [T0_I (by decide)]; rfl)
  refine ⟨gI M 11 (x * 3 + y), nI (sW (gI M 109) (x * 3 + y)), M, T0 (sL M 124 0 (gI M 11 (x * 3 + y)).toInt64), ?_, ?_, hI.kp (out_kp.trans T0.kp), T0_0, ?_⟩
  · unfold f_X11_weight
    rw [needAction1 h.c h.z hN.1 hx, if_pos (inR_of hy (by omega)), clT_ok, rowOf_eq, cl_some, rdI_n (by omega) (by decide)]
  · show f_X12_weight Z (sL M 124 0 (gI M 11 (x * 3 + y)).toInt64) (nI x) (nI y) = _
    unfold f_X12_weight
    rw [noAction1 (by exact h.1) (by exact h.r) h.z hx, if_pos (inR_of hy (by omega)), cl_some, if_pos rfl, weightOf_eq hS (by omega), cl_some]
  · rw [T0_L, gL_sL, if_pos ⟨rfl, rfl⟩, show (11 : Nat) = 10 + 1 from rfl, h.2.2.2.2.1.w h.2.2.2.1 hN.2 _ (by omega)]
theorem ok_limit {Z : Nat} (_ : 4000 < Z) {M : Mem} (hI : Inv M) (h : Has M) {x : Nat} (hx : x < cB (gI M 112)) : OKc (f_X11_limit Z M (nI x)) (fun M => f_X12_limit Z M (nI x)) (·.toInt64) (·.toInt64) := by
  have hB := h.b.2.2
  refine ⟨gI M 13 x, gI M 109 (40 + x), M, T0 (sL M 124 0 (gI M 13 x).toInt64), ?_, ?_, hI.kp (out_kp.trans T0.kp), T0_0, ?_⟩
  · unfold f_X11_limit
    rw [needBudget1 h.c.1 h.N h.b.1 hB, if_pos (inR_of hx (by omega)), clT_ok, rdI_n (by omega) (by decide)]
  · show f_X12_limit Z (sL M 124 0 (gI M 13 x).toInt64) (nI x) = _
    unfold f_X12_limit
    rw [noBudget1 (by exact h.1) (by exact h.b.2.1) hB, if_pos (inR_of hx (by omega)), cl_some, if_pos rfl, rd109 (c := 40 + nI x) (i := 40 + x) (by rw [show (40 : Int32) = nI 40 from rfl, nI_add]) (by omega), T0_I (by decide)]
    rfl
  · rw [T0_L, gL_sL, if_pos ⟨rfl, rfl⟩, show (13 : Nat) = 10 + 3 from rfl, h.2.2.2.2.1.2.2.2.1 x (by omega)]
theorem ok_seed {Z : Nat} (_ : 4000 < Z) {M : Mem} (hI : Inv M) (h : Has M) : OKc (f_X11_seed Z M) (fun M => f_X12_seed Z M) (·.toInt64) (·.toInt64) := by
  refine ⟨gI M 10 5, gI M 109 2, M, T0 (sL M 124 0 (gI M 10 5).toInt64), ?_, ?_, hI.kp (out_kp.trans T0.kp), T0_0, ?_⟩
  · unfold f_X11_seed
    rw [needChain1 h.c.1 h.N]
    rfl
  · show f_X12_seed Z (sL M 124 0 (gI M 10 5).toInt64) = _
    unfold f_X12_seed
    rw [noChain1 (by exact h.1), cl_some, if_pos rfl, rd109 (c := 2) (i := 2) (by decide) (by decide), gI_sI', if_neg (by decide)]
    rfl
  · rw [T0_L, gL_sL, if_pos ⟨rfl, rfl⟩, h.2.2.2.2.1.1.2.2.1]
theorem b_law_9 {Z L a : Nat} {xs : Nat → Int32} {M : Mem} {j : Mem → Option Unit} (hZ : 4000 < Z) (hI : Inv M) (ha : a + 6 ≤ L) (hL : L ≤ 3072) (hj : ∀ M1, Inv M1 → j M1 = some ()) : f_law_9 Z L xs M (nI a) j = some () := by
  unfold f_law_9
  simp (disch := omega) only [i1, nI_add, rdX_n]
  generalize xs (a + 1) = p1
  rcases hI.2.2.2.2.2 with h | h
  · have e1 : f_L_actions Z M p1 = some (1, M) := by
      unfold f_L_actions f_X11_actions
      rw [needState0 h.2.1]
      rfl
    have e2 : f_X12_actions Z M p1 = some (0, Tc M 1) := by
      unfold f_X12_actions
      rw [noState0 h.1]
      rfl
    rw [e1, cl_some, e2, cl_some]
    exact tail_l Tc_0 (fun z => absurd z (by decide)) (hj _ (hI.kp Tc.kp))
  · by_cases hp : inR p1 (cN (gI M 112))
    · obtain ⟨x, hx, rfl⟩ := inR_nI hp
      obtain ⟨v, w, M1, M2, q1, q2, q3, q4, q5⟩ := ok_actions (Z := Z) hZ hI h hx
      dsimp only at q2 q5
      have e1 : f_L_actions Z M (nI x) = some (0, sL M1 124 0 (v.toInt64)) := by
        unfold f_L_actions
        rw [q1, clT_ok, i0, wrL_n (by decide) (by decide)]
      rw [e1, cl_some, q2, cl_some]
      exact tail_l q4 (fun _ => q5) (hj _ q3)
    · have e1 : f_L_actions Z M p1 = some (2, M) := by
        unfold f_L_actions f_X11_actions
        rw [needState1 h.c.1 h.N, if_neg hp]
        rfl
      have e2 : f_X12_actions Z M p1 = some (0, Tc M 2) := by
        unfold f_X12_actions
        rw [noState1 h.1 h.r.1 h.N.2, if_neg hp]
        rfl
      rw [e1, cl_some, e2, cl_some]
      exact tail_l Tc_0 (fun z => absurd z (by decide)) (hj _ (hI.kp Tc.kp))
theorem b_law_10 {Z L a : Nat} {xs : Nat → Int32} {M : Mem} {j : Mem → Option Unit} (hZ : 4000 < Z) (hI : Inv M) (ha : a + 6 ≤ L) (hL : L ≤ 3072) (hj : ∀ M1, Inv M1 → j M1 = some ()) : f_law_10 Z L xs M (nI a) j = some () := by
  unfold f_law_10
  simp (disch := omega) only [i1, i2, nI_add, rdX_n]
  generalize xs (a + 1) = p1
  generalize xs (a + 2) = p2
  rcases hI.2.2.2.2.2 with h | h
  · have e1 : f_L_gain Z M p1 p2 = some (1, M) := by
      unfold f_L_gain f_X11_gain
      rw [needAction0 h.2.1]
      rfl
    have e2 : f_X12_gain Z M p1 p2 = some (0, Tc M 1) := by
      unfold f_X12_gain
      rw [noAction0 h.1]
      rfl
    rw [e1, cl_some, e2, cl_some]
    exact tail_l Tc_0 (fun z => absurd z (by decide)) (hj _ (hI.kp Tc.kp))
  · by_cases hp : inR p1 (cN (gI M 112))
    · obtain ⟨x, hx, rfl⟩ := inR_nI hp
      by_cases hp2 : inR p2 (cM (gI M 112) x)
      · obtain ⟨y, hy, rfl⟩ := inR_nI hp2
        obtain ⟨v, w, M1, M2, q1, q2, q3, q4, q5⟩ := ok_gain (Z := Z) hZ hI h hx hy
        dsimp only at q2 q5
        have e1 : f_L_gain Z M (nI x) (nI y) = some (0, sL M1 124 0 (v.toInt64)) := by
          unfold f_L_gain
          rw [q1, clT_ok, i0, wrL_n (by decide) (by decide)]
        rw [e1, cl_some, q2, cl_some]
        exact tail_l q4 (fun _ => q5) (hj _ q3)
      · have e1 : f_L_gain Z M (nI x) p2 = some (2, M) := by
          unfold f_L_gain f_X11_gain
          rw [needAction1 h.c h.z h.N.1 hx, if_neg hp2]
          rfl
        have e2 : f_X12_gain Z M (nI x) p2 = some (0, Tc M 2) := by
          unfold f_X12_gain
          rw [noAction1 h.1 h.r h.z hx, if_neg hp2]
          rfl
        rw [e1, cl_some, e2, cl_some]
        exact tail_l Tc_0 (fun z => absurd z (by decide)) (hj _ (hI.kp Tc.kp))
    · have e1 : f_L_gain Z M p1 p2 = some (2, M) := by
        unfold f_L_gain f_X11_gain
        rw [needActionX h.c.1 h.N hp]
        rfl
      have e2 : f_X12_gain Z M p1 p2 = some (0, Tc M 2) := by
        unfold f_X12_gain
        rw [noActionX h.1 h.r.1 h.N.2 hp]
        rfl
      rw [e1, cl_some, e2, cl_some]
      exact tail_l Tc_0 (fun z => absurd z (by decide)) (hj _ (hI.kp Tc.kp))
theorem b_law_13 {Z L a : Nat} {xs : Nat → Int32} {M : Mem} {j : Mem → Option Unit} (hZ : 4000 < Z) (hI : Inv M) (ha : a + 6 ≤ L) (hL : L ≤ 3072) (hj : ∀ M1, Inv M1 → j M1 = some ()) : f_law_13 Z L xs M (nI a) j = some () := by
  unfold f_law_13
  simp (disch := omega) only [i1, i2, nI_add, rdX_n]
  generalize xs (a + 1) = p1
  generalize xs (a + 2) = p2
  rcases hI.2.2.2.2.2 with h | h
  · have e1 : f_L_weight Z M p1 p2 = some (1, M) := by
      unfold f_L_weight f_X11_weight
      rw [needAction0 h.2.1]
      rfl
    have e2 : f_X12_weight Z M p1 p2 = some (0, Tc M 1) := by
      unfold f_X12_weight
      rw [noAction0 h.1]
      rfl
    rw [e1, cl_some, e2, cl_some]
    exact tail_l Tc_0 (fun z => absurd z (by decide)) (hj _ (hI.kp Tc.kp))
  · by_cases hp : inR p1 (cN (gI M 112))
    · obtain ⟨x, hx, rfl⟩ := inR_nI hp
      by_cases hp2 : inR p2 (cM (gI M 112) x)
      · obtain ⟨y, hy, rfl⟩ := inR_nI hp2
        obtain ⟨v, w, M1, M2, q1, q2, q3, q4, q5⟩ := ok_weight (Z := Z) hZ hI h hx hy
        dsimp only at q2 q5
        have e1 : f_L_weight Z M (nI x) (nI y) = some (0, sL M1 124 0 (v.toInt64)) := by
          unfold f_L_weight
          rw [q1, clT_ok, i0, wrL_n (by decide) (by decide)]
        rw [e1, cl_some, q2, cl_some]
        exact tail_l q4 (fun _ => q5) (hj _ q3)
      · have e1 : f_L_weight Z M (nI x) p2 = some (2, M) := by
          unfold f_L_weight f_X11_weight
          rw [needAction1 h.c h.z h.N.1 hx, if_neg hp2]
          rfl
        have e2 : f_X12_weight Z M (nI x) p2 = some (0, Tc M 2) := by
          unfold f_X12_weight
          rw [noAction1 h.1 h.r h.z hx, if_neg hp2]
          rfl
        rw [e1, cl_some, e2, cl_some]
        exact tail_l Tc_0 (fun z => absurd z (by decide)) (hj _ (hI.kp Tc.kp))
    · have e1 : f_L_weight Z M p1 p2 = some (2, M) := by
        unfold f_L_weight f_X11_weight
        rw [needActionX h.c.1 h.N hp]
        rfl
      have e2 : f_X12_weight Z M p1 p2 = some (0, Tc M 2) := by
        unfold f_X12_weight
        rw [noActionX h.1 h.r.1 h.N.2 hp]
        rfl
      rw [e1, cl_some, e2, cl_some]
      exact tail_l Tc_0 (fun z => absurd z (by decide)) (hj _ (hI.kp Tc.kp))
theorem b_law_15 {Z L a : Nat} {xs : Nat → Int32} {M : Mem} {j : Mem → Option Unit} (hZ : 4000 < Z) (hI : Inv M) (ha : a + 6 ≤ L) (hL : L ≤ 3072) (hj : ∀ M1, Inv M1 → j M1 = some ()) : f_law_15 Z L xs M (nI a) j = some () := by
  unfold f_law_15
  simp (disch := omega) only [i1, nI_add, rdX_n]
  generalize xs (a + 1) = p1
  rcases hI.2.2.2.2.2 with h | h
  · have e1 : f_L_limit Z M p1 = some (1, M) := by
      unfold f_L_limit f_X11_limit
      rw [needBudget0 h.2.1]
      rfl
    have e2 : f_X12_limit Z M p1 = some (0, Tc M 1) := by
      unfold f_X12_limit
      rw [noBudget0 h.1]
      rfl
    rw [e1, cl_some, e2, cl_some]
    exact tail_l Tc_0 (fun z => absurd z (by decide)) (hj _ (hI.kp Tc.kp))
  · by_cases hp : inR p1 (cB (gI M 112))
    · obtain ⟨x, hx, rfl⟩ := inR_nI hp
      obtain ⟨v, w, M1, M2, q1, q2, q3, q4, q5⟩ := ok_limit (Z := Z) hZ hI h hx
      dsimp only at q2 q5
      have e1 : f_L_limit Z M (nI x) = some (0, sL M1 124 0 (v.toInt64)) := by
        unfold f_L_limit
        rw [q1, clT_ok, i0, wrL_n (by decide) (by decide)]
      rw [e1, cl_some, q2, cl_some]
      exact tail_l q4 (fun _ => q5) (hj _ q3)
    · have e1 : f_L_limit Z M p1 = some (2, M) := by
        unfold f_L_limit f_X11_limit
        rw [needBudget1 h.c.1 h.N h.b.1 h.b.2.2, if_neg hp]
        rfl
      have e2 : f_X12_limit Z M p1 = some (0, Tc M 2) := by
        unfold f_X12_limit
        rw [noBudget1 h.1 h.b.2.1 h.b.2.2, if_neg hp]
        rfl
      rw [e1, cl_some, e2, cl_some]
      exact tail_l Tc_0 (fun z => absurd z (by decide)) (hj _ (hI.kp Tc.kp))
theorem b_law_42 {Z L a : Nat} {xs : Nat → Int32} {M : Mem} {j : Mem → Option Unit} (hZ : 4000 < Z) (hI : Inv M) (ha : a + 6 ≤ L) (hL : L ≤ 3072) (hj : ∀ M1, Inv M1 → j M1 = some ()) : f_law_42 Z L xs M (nI a) j = some () := by
  unfold f_law_42
  rcases hI.2.2.2.2.2 with h | h
  · have e1 : f_L_seed Z M = some (1, M) := by
      unfold f_L_seed f_X11_seed
      rw [needChain0 h.2.1]
      rfl
    have e2 : f_X12_seed Z M = some (0, Tc M 1) := by
      unfold f_X12_seed
      rw [noChain0 h.1]
      rfl
    rw [e1, cl_some, e2, cl_some]
    exact tail_l Tc_0 (fun z => absurd z (by decide)) (hj _ (hI.kp Tc.kp))
  · obtain ⟨v, w, M1, M2, q1, q2, q3, q4, q5⟩ := ok_seed (Z := Z) hZ hI h
    dsimp only at q2 q5
    have e1 : f_L_seed Z M = some (0, sL M1 124 0 (v.toInt64)) := by
      unfold f_L_seed
      rw [q1, clT_ok, i0, wrL_n (by decide) (by decide)]
    rw [e1, cl_some, q2, cl_some]
    exact tail_l q4 (fun _ => q5) (hj _ q3)
