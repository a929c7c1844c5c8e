/-! bestGain, bestAction, pureSets, worth -/
def limS (S : Nat → Int32) (b : Nat) : Nat := pn S (40 + b)
def FBM (M : Mem) (lim : Nat → Nat) (K : Nat) : Nat × Int64 × (Nat → Nat) := FB (gI M 112) (gI M 109) (pn (gI M 109) 0) (pn (gI M 109) 1) lim K
def PMM (M M1 : Mem) : Prop := PM (gI M 112) (gI M 109) (pn (gI M 109) 0) (pn (gI M 109) 1) M1
theorem PMM.cache {M M1 : Mem} (h : PMM M M1) (hM : Has M) : Cache (gI M 112) M1 := Or.inr ⟨_, _, h.2.2.2.2.1, h.2.2.2.2.2.1, hM.st.2, hM.hz.2.2.1, hM.hz.2.2.2, fun k c hc => h.2.2.2.2.2.2 k (cho_lt hM.2.1 hc) c hc⟩
theorem lB_no {o : Nat} (h1 : 3 ≤ o) (h2 : o ≤ 15) : o ∉ lB := fun z => by
  have := lB_in.mp z
  omega
theorem Has.lm {M : Mem} (h : Has M) {b : Nat} (hb : b < cB (gI M 112)) : gI M 13 b = nI (limS (gI M 109) b) ∧ limS (gI M 109) b ≤ 9999 := by
  have hB := h.b.2.2
  have e := h.VS.v5 b (by omega)
  rw [show (13 : Nat) = 10 + 3 from rfl, h.RS.2.2.2.1 b (by omega)]
  exact e
theorem clsBest {Z : Nat} {M M0 : Mem} (hZ : 4000 < Z) (h : Has M) (f0 : fr lB M M0) (hC : Cache (gI M 112) M0) {p0 p1 : Int32} {lim : Nat → Nat} (hl : ∀ b, b < cB (gI M 112) → (if nI b = p0 then nI (limS (gI M 109) b) + p1 else nI (limS (gI M 109) b)) = nI (lim b) ∧ lim b ≤ 20000) {K : Nat} (k1 : 1 ≤ K) (k2 : K ≤ 729) (k3 : ∀ k, k < K → ∃ c, cho (gI M 112) k = some c) (k4 : cho (gI M 112) K = none) :
    ∃ M', f_X5_findBest Z M0 p0 p1 = some ((FBM M lim K).2.1, M') ∧ fr lB M M' ∧ PMM M M' ∧ (0 < (FBM M lim K).1 → ∀ y, y < 6 → gI M' 101 y = nI ((FBM M lim K).2.2 y)) := by
  obtain ⟨M', e, f, p, g⟩ := findBest_ok (Z := Z) (M := M0) (P := gI M 112) (S := gI M 109) h.2.1 (h.2.2.1.same (fun o a b => f0.I (lB_no a (by omega)))) (h.RS.same (fun i hi => f0.I (lB_no (by omega) (by omega)))) hZ (by rw [f0.I (by decide)]; exact h.st.1) (by rw [f0.I (by decide)]; exact h.hz.1) h.st.2 h.hz.2.2.1 h.hz.2.2.2 hC (p0 := p0) (p1 := p1) (lim := lim) (fun b hb => by rw [f0.I (by decide), (h.lm hb).1]; exact hl b hb) k1 k2 k3 k4
  exact ⟨M', e, f0.trans f, p, g⟩
theorem lim0 {M : Mem} (h : Has M) : ∀ b, b < cB (gI M 112) → (if nI b = (-1 : Int32) then nI (limS (gI M 109) b) + 0 else nI (limS (gI M 109) b)) = nI (limS (gI M 109) b) ∧ limS (gI M 109) b ≤ 20000 := fun b hb => by
  have hB := h.b.2.2
  rw [if_neg (nI_ne_neg (by omega))]
  have := (h.lm hb).2
  exact ⟨rfl, by omega⟩
/-- the reference behind a call of the class -/
theorem refBest {Z : Nat} {M M0 : Mem} (hZ : 4000 < Z) (hI : Inv M) (h : Has M) (f0 : fr lB M M0) (p0 : PMM M M0) (v : Int64) {K : Nat} (k1 : 1 ≤ K) (k2 : K ≤ 729) (k3 : ∀ k, k < K → ∃ c, cho (gI M 112) k = some c) (k4 : cho (gI M 112) K = none) :
    ∃ M', f_X12_findsBest Z (T0 (sL M0 124 0 v)) = some ((FBM M (limS (gI M 109)) K).2.1, M') ∧ fr lG (T0 (sL M0 124 0 v)) M' ∧ kt M M' ∧ Cache (gI M 112) M' ∧ Inv M' ∧ gI M' 108 0 = 0 ∧ gL M' 124 0 = v ∧ gI M' 108 28 = nI (FBM M (limS (gI M 109)) K).1 ∧ (0 < (FBM M (limS (gI M 109)) K).1 → ∀ y, y < cN (gI M 112) → gI M' 122 y = nI ((FBM M (limS (gI M 109)) K).2.2 y)) := by
  have hS := h.VS
  have g2 : ∀ o, o ∉ lB → o ≠ 108 → gI (T0 (sL M0 124 0 v)) o = gI M o := fun o a b => by rw [T0_I b, gI_sL', f0.I a]
  have j109 := g2 109 (by decide) (by decide)
  have j112 := g2 112 (by decide) (by decide)
  obtain ⟨M', e, f, t1, t2, t3, t4, t5, t6⟩ := findsBest_ok (Z := Z) (M := T0 (sL M0 124 0 v)) (P := gI M 112) (S := gI M 109) (st := pn (gI M 109) 0) (H := pn (gI M 109) 1) (W0 := sW (gI M 109)) (lim := limS (gI M 109)) h.2.1 j112 hZ (hS.toSR j109) (fun r => hS.v3.2.1 r) (fun i _ _ => by rw [j109]) h.st.2 h.hz.2.2.1 h.hz.2.2.2 (hS.lim j109) k1 k2 k3 k4
  have kt1 : kt M M' := by
    refine ⟨fun o a b c => ?_, fun k hk => ?_, fun i hi => by rw [t1 i hi, j109], fun j hj => by rw [t2 j hj, g2 110 (by decide) (by decide)]⟩
    · have c1 : o ∉ lG := fun z => by
        have : ∀ o, o ∈ lG → o ∈ scrL ∨ o = 108 ∨ o ∈ [96, 97, 98, 109, 110] := by decide
        rcases this o z with y | y | y
        · exact a y
        · exact b y
        · exact c y
      have c2 : o ∉ lB := fun z => by
        have : ∀ o, o ∈ lB → o ∈ scrL ∨ o ∈ [96, 97, 98, 109, 110] := by decide
        rcases this o z with y | y
        · exact a y
        · exact c y
      have c3 : o ≠ 124 := fun z => a (by rw [z]; decide)
      have q := f o c1
      have q2 := f0 o c2
      rw [T0_I b, T0_L, T0_R, gI_sL', gR_sL', gL_sL', if_neg c3] at q
      exact ⟨q.1.trans q2.1, q.2.1.trans q2.2.1, q.2.2.trans q2.2.2⟩
    · rw [t3 k (by omega), T0.kp.2 k hk, gI_sL', f0.I (by decide)]
  have hc : Cache (gI M 112) M' := by
    have hc := p0.cache h
    have q96 := (f 96 (by decide)).1
    have q97 := (f 97 (by decide)).2.1
    have q98 := (f 98 (by decide)).2.1
    rw [T0_I (by decide), gI_sL'] at q96
    rw [T0_L, gL_sL', if_neg (by decide)] at q97
    rw [T0_L, gL_sL', if_neg (by decide)] at q98
    unfold Cache
    rw [q96, q97, q98]
    exact hc
  refine ⟨M', e, f, kt1, hc, invKt hI h kt1 hc, ?_, ?_, t4, t6⟩
  · rw [t3 0 (by decide)]
    exact T0_0
  · rw [f.L (by decide), T0_L, gL_sL, if_pos ⟨rfl, rfl⟩]
theorem ok_bestGain {Z : Nat} (hZ : 4000 < Z) {M : Mem} (hI : Inv M) (h : Has M) : OKc (f_X11_bestGain Z M) (fun M => f_X12_bestGain Z M) (fun v => v) (fun v => v) := by
  obtain ⟨K, k1, k2, k3, k4⟩ := cho_end h.2.1
  obtain ⟨M1, e1, f1, p1, _⟩ := clsBest hZ h fr.rfl h.2.2.2.2.2.2.2.2 (lim0 h) k1 k2 k3 k4
  obtain ⟨M2, e2, _, _, _, i2, z2, o2, _⟩ := refBest hZ hI h f1 p1 (FBM M (limS (gI M 109)) K).2.1 k1 k2 k3 k4
  refine ⟨(FBM M (limS (gI M 109)) K).2.1, (FBM M (limS (gI M 109)) K).2.1, M1, M2, ?_, ?_, i2, z2, o2⟩
  · unfold f_X11_bestGain
    rw [h.nC, clT_ok, e1, cl_some]
  · show f_X12_bestGain Z (sL M1 124 0 _) = _
    unfold f_X12_bestGain
    rw [noChainT (by rw [gI_sL', f1.I (by decide)]; exact h.1), cl_some, if_pos rfl, e2, cl_some]
theorem ck_bestGain {Z : Nat} {M : Mem} (hZ : 4000 < Z) (hI : Inv M) : CK (f_L_bestGain Z M) (fun M => f_X12_bestGain Z M) (fun v => v) := by
  unfold f_L_bestGain
  rcases hI.2.2.2.2.2 with h | h
  · exact CK.er hI (e := 0) (c := 1) (w := 0) (by unfold f_X11_bestGain; rw [needChain0 h.2.1]; rfl) rfl (by decide) (by unfold f_X12_bestGain; rw [noChain0 h.1]; rfl)
  · exact CK.mk (cv := fun v => v) (ok_bestGain hZ hI h)
theorem b_law_36 {Z L a : Nat} {xs : Nat → Int32} {M : Mem} {j : Mem → Option Unit} (hZ : 4000 < Z) (hI : Inv M) (ha : a + 6 ≤ L) (hL : L ≤ 3072) (hj : ∀ M1, Inv M1 → j M1 = some ()) : f_law_36 Z L xs M (nI a) j = some () := by
  unfold f_law_36
  exact (ck_bestGain hZ hI).tail hj
theorem Has.s108 {M M0 : Mem} (h : Has M) (f0 : fr lB M M0) (v : Int64) : gI (sL M0 124 0 v) 108 1 = nI 1 := by
  rw [gI_sL', f0.I (by decide)]
  exact h.1
theorem Has.s112' {M M0 : Mem} (f0 : fr lB M M0) (v : Int64) : gI (sL M0 124 0 v) 112 = gI M 112 := by rw [gI_sL', f0.I (by decide)]
theorem ok_bestAction {Z : Nat} (hZ : 4000 < Z) {M : Mem} (hI : Inv M) (h : Has M) {x : Nat} (hx : x < cN (gI M 112)) : OKc (f_X11_bestAction Z M (nI x)) (fun M => f_X12_bestAction Z M (nI x)) (·.toInt64) (·.toInt64) := by
  obtain ⟨K, k1, k2, k3, k4⟩ := cho_end h.2.1
  have hN := h.N
  obtain ⟨M1, e1, f1, p1, g1⟩ := clsBest hZ h fr.rfl h.2.2.2.2.2.2.2.2 (lim0 h) k1 k2 k3 k4
  have hF := FB_ok (S := gI M 109) (st := pn (gI M 109) 0) (lim := limS (gI M 109)) h.2.1 h.hz.2.2.1 h.hz.2.2.2 K
  have rg : ∀ v, f_X12_noState Z (sL M1 124 0 v) (nI x) = some (0, T0 (sL M1 124 0 v)) := fun v => by
    rw [noState1 (h.s108 f1 v) (by rw [Has.s112' f1]; exact h.2.1.n) hN.2, if_pos (inR_of hx (by omega))]
  by_cases c : (FBM M (limS (gI M 109)) K).1 = 0
  · obtain ⟨M2, e2, _, _, _, i2, z2, o2, w2, _⟩ := refBest hZ hI h f1 p1 (-1 : Int32).toInt64 k1 k2 k3 k4
    refine ⟨-1, -1, M1, M2, ?_, ?_, i2, z2, o2⟩
    · unfold f_X11_bestAction
      rw [h.nS, if_pos (inR_of hx (by omega)), clT_ok, e1, cl_some, if_pos (show (FBM M (limS (gI M 109)) K).2.1 = -9223372036854775808 from hF.2.1 c)]
    · show f_X12_bestAction Z (sL M1 124 0 _) (nI x) = _
      unfold f_X12_bestAction
      rw [rg, cl_some, if_pos rfl, e2, cl_some, bd_eq, w2, c, if_pos (by decide)]
  · obtain ⟨M2, e2, _, _, _, i2, z2, o2, w2, u2⟩ := refBest hZ hI h f1 p1 (nI ((FBM M (limS (gI M 109)) K).2.2 x)).toInt64 k1 k2 k3 k4
    have h2 := hF.2.2 (Nat.pos_of_ne_zero c)
    have h1 : (FBM M (limS (gI M 109)) K).1 ≤ K := hF.1
    have ne : ¬ (FBM M (limS (gI M 109)) K).2.1 = -9223372036854775808 := fun z => by
      have h3 : (-9223372036854775808 : Int64) < (FBM M (limS (gI M 109)) K).2.1 := h2.1
      rw [z] at h3
      exact Int64.lt_irrefl h3
    refine ⟨nI ((FBM M (limS (gI M 109)) K).2.2 x), nI ((FBM M (limS (gI M 109)) K).2.2 x), M1, M2, ?_, ?_, i2, z2, o2⟩
    · unfold f_X11_bestAction
      rw [h.nS, if_pos (inR_of hx (by omega)), clT_ok, e1, cl_some, if_neg ne, rdI_n (by omega) (by decide), g1 (Nat.pos_of_ne_zero c) x (by omega)]
    · show f_X12_bestAction Z (sL M1 124 0 _) (nI x) = _
      unfold f_X12_bestAction
      rw [rg, cl_some, if_pos rfl, e2, cl_some, bd_eq, w2, if_neg (by rw [show (0 : Int32) = nI 0 from rfl, nI_ile (by omega) (by decide)]; omega), rdI_n (by omega) (by decide), u2 (Nat.pos_of_ne_zero c) x hx]
theorem ck_bestAction {Z : Nat} {M : Mem} (hZ : 4000 < Z) (hI : Inv M) (p1 : Int32) : CK (f_L_bestAction Z M p1) (fun M => f_X12_bestAction Z M p1) (·.toInt64) := by
  unfold f_L_bestAction
  rcases hI.2.2.2.2.2 with h | h
  · exact CK.er hI (e := 0) (c := 1) (w := 0) (by unfold f_X11_bestAction; rw [needState0 h.2.1]; rfl) rfl (by decide) (by unfold f_X12_bestAction; rw [noState0 h.1]; rfl)
  · by_cases hp : inR p1 (cN (gI M 112))
    · obtain ⟨x, hx, rfl⟩ := inR_nI hp
      exact CK.mk (ok_bestAction hZ hI h hx)
    · exact CK.er hI (e := 1) (c := 2) (w := 0) (by unfold f_X11_bestAction; rw [h.nS, if_neg hp]; rfl) rfl (by decide) (by unfold f_X12_bestAction; rw [h.rS, if_neg hp]; rfl)
theorem b_law_37 {Z L a : Nat} {xs : Nat → Int32} {M : Mem} {j : Mem → Option Unit} (hZ : 4000 < Z) (hI : Inv M) (ha : a + 6 ≤ L) (hL : L ≤ 3072) (hj : ∀ M1, Inv M1 → j M1 = some ()) : f_law_37 Z L xs M (nI a) j = some () := by
  unfold f_law_37
  simp (disch := omega) only [i1, nI_add, rdX_n]
  generalize xs (a + 1) = p1
  exact (ck_bestAction hZ hI p1).tail hj
theorem ok_pureSets {Z : Nat} (hZ : 4000 < Z) {M : Mem} (hI : Inv M) (h : Has M) : OKc (f_X11_pureSets Z M) (fun M => f_X12_pureSets Z M) (·.toInt64) (·.toInt64) := by
  obtain ⟨K, k1, k2, k3, k4⟩ := cho_end h.2.1
  obtain ⟨M1, e1, f1, p1⟩ := countHolding_ok (Z := Z) (M := M) (P := gI M 112) (S := gI M 109) h.2.1 h.2.2.1 h.RS hZ h.st.1 h.hz.1 h.st.2 h.hz.2.2.1 h.hz.2.2.2 h.2.2.2.2.2.2.2.2 (lim := limS (gI M 109)) (fun b hb => by rw [(h.lm hb).1]; exact lim0 h b hb) k1 k2 k3 k4
  obtain ⟨M2, e2, _, _, _, i2, z2, o2, w2, _⟩ := refBest hZ hI h f1 p1 (nI (FBM M (limS (gI M 109)) K).1).toInt64 k1 k2 k3 k4
  refine ⟨nI (FBM M (limS (gI M 109)) K).1, nI (FBM M (limS (gI M 109)) K).1, M1, M2, ?_, ?_, i2, z2, o2⟩
  · unfold f_X11_pureSets
    rw [h.nC, clT_ok, e1, cl_some]
    rfl
  · show f_X12_pureSets Z (sL M1 124 0 _) = _
    unfold f_X12_pureSets
    rw [noChainT (h.s108 f1 _)]
    show cl (some (0, T0 (sL M1 124 0 (nI (FBM M (limS (gI M 109)) K).1).toInt64))) _ = _
    rw [cl_some, if_pos rfl, e2, cl_some, bd_eq, w2]
theorem ck_pureSets {Z : Nat} {M : Mem} (hZ : 4000 < Z) (hI : Inv M) : CK (f_L_pureSets Z M) (fun M => f_X12_pureSets Z M) (·.toInt64) := by
  unfold f_L_pureSets
  rcases hI.2.2.2.2.2 with h | h
  · exact CK.er hI (e := 0) (c := 1) (w := 0) (by unfold f_X11_pureSets; rw [needChain0 h.2.1]; rfl) rfl (by decide) (by unfold f_X12_pureSets; rw [noChain0 h.1]; rfl)
  · exact CK.mk (ok_pureSets hZ hI h)
theorem b_law_38 {Z L a : Nat} {xs : Nat → Int32} {M : Mem} {j : Mem → Option Unit} (hZ : 4000 < Z) (hI : Inv M) (ha : a + 6 ≤ L) (hL : L ≤ 3072) (hj : ∀ M1, Inv M1 → j M1 = some ()) : f_law_38 Z L xs M (nI a) j = some () := by
  unfold f_law_38
  exact (ck_pureSets hZ hI).tail hj
theorem ok_worth {Z : Nat} (hZ : 4000 < Z) {M : Mem} (hI : Inv M) (h : Has M) {b more : Nat} (hb : b < cB (gI M 112)) (hm : more ≤ 9999) (hm1 : 1 ≤ more) : OKc (f_X11_worth Z M (nI b) (nI more)) (fun M => f_X12_worth Z M (nI b) (nI more)) (fun v => v) (fun v => v) := by
  obtain ⟨K, k1, k2, k3, k4⟩ := cho_end h.2.1
  have hN := h.N
  have hB := h.b.2.2
  have hS := h.VS
  obtain ⟨M1, e1, f1, p1, g1⟩ := clsBest hZ h fr.rfl h.2.2.2.2.2.2.2.2 (lim0 h) k1 k2 k3 k4
  have hF := FB_ok (S := gI M 109) (st := pn (gI M 109) 0) (lim := limS (gI M 109)) h.2.1 h.hz.2.2.1 h.hz.2.2.2 K
  have rg : ∀ {M1 : Mem}, fr lB M M1 → ∀ v, f_X12_noBudget Z (sL M1 124 0 v) (nI b) = some (0, T0 (sL M1 124 0 v)) := fun f1 v => by
    rw [noBudget1 (h.s108 f1 v) (by rw [Has.s112' f1]; exact h.b.2.1) hB, if_pos (inR_of hb (by omega))]
  by_cases c : (FBM M (limS (gI M 109)) K).1 = 0
  · obtain ⟨M2, e2, _, _, _, i2, z2, o2, w2, _⟩ := refBest hZ hI h f1 p1 (-9223372036854775808) k1 k2 k3 k4
    refine ⟨-9223372036854775808, -9223372036854775808, M1, M2, ?_, ?_, i2, z2, o2⟩
    · unfold f_X11_worth
      rw [h.nB, if_pos (inR_of hb (by omega)), clT_ok, needRangeN (a := 1) (b := 9999) rfl rfl, if_pos (inN_of hm1 hm (by decide)), clT_ok, e1, cl_some, if_pos (show (FBM M (limS (gI M 109)) K).2.1 = -9223372036854775808 from hF.2.1 c)]
    · show f_X12_worth Z (sL M1 124 0 _) (nI b) (nI more) = _
      unfold f_X12_worth
      rw [rg f1, cl_some, if_pos rfl, in_N (a := 1) (b := 9999) rfl rfl, cl_some, rfz T0_0 (by decide), if_pos (inN_of hm1 hm (by decide)), if_pos rfl, e2, cl_some, bd_eq, w2, c, if_pos (show nI 0 = 0 from rfl)]
  · have h2 := hF.2.2 (Nat.pos_of_ne_zero c)
    have hle : (FBM M (limS (gI M 109)) K).1 ≤ K := hF.1
    have ne : ¬ (FBM M (limS (gI M 109)) K).2.1 = -9223372036854775808 := fun z => by
      have h3 : (-9223372036854775808 : Int64) < (FBM M (limS (gI M 109)) K).2.1 := h2.1
      rw [z] at h3
      exact Int64.lt_irrefl h3
    generalize hlm : (fun b' => if b' = b then limS (gI M 109) b' + more else limS (gI M 109) b') = lim
    have lb : ∀ b', b' < 3 → limS (gI M 109) b' ≤ 9999 := fun b' hb' => (hS.v5 b' hb').2
    have ll : ∀ b', b' < 3 → lim b' ≤ 20000 := fun b' hb' => by
      have := lb b' hb'
      rw [← hlm]
      dsimp only
      split <;> omega
    obtain ⟨M2, e2, f2, p2, g2⟩ := clsBest (M0 := M1) hZ h f1 (p1.cache h) (p0 := nI b) (p1 := nI more) (lim := lim) (fun b' hb' => by
      refine ⟨?_, ll b' (by omega)⟩
      rw [← hlm]
      dsimp only
      by_cases d : b' = b
      · rw [if_pos (by rw [d]), if_pos d, nI_add]
      · rw [if_neg (fun z => d ((nI_eq (by omega) (by omega)).mp z)), if_neg d]) k1 k2 k3 k4
    generalize hv : (FBM M lim K).2.1 - (FBM M (limS (gI M 109)) K).2.1 = v
    obtain ⟨M3, e3, f3, kt3, hc3, i3', z3, o3, w3, _⟩ := refBest hZ hI h f2 p2 v k1 k2 k3 k4
    have lbb := lb b (by omega)
    have j109 : ∀ i, i < 54 → gI M3 109 i = gI M 109 i := kt3.2.2.1
    have j112 : gI M3 112 = gI M 112 := (kt3.1 112 (by decide) (by decide) (by decide)).1
    have e40 : gI M3 109 (40 + b) = nI (limS (gI M 109) b) := by
      rw [j109 _ (by omega)]
      exact (hS.v5 b (by omega)).1
    generalize hM4 : sI M3 109 (40 + b) (nI (limS (gI M 109) b + more)) = M4
    have f34 : fr [109] M3 M4 := by
      rw [← hM4]
      exact fr_sI fr.rfl (by decide)
    have e4 : ∀ i, gI M4 109 i = if i = 40 + b then nI (limS (gI M 109) b + more) else gI M3 109 i := fun i => by
      rw [← hM4, gI_sI]
      simp only [true_and]
    have n4 : ∀ i, i < 40 → gI M4 109 i = gI M 109 i := fun i hi => by rw [e4, if_neg (by omega), j109 i (by omega)]
    obtain ⟨M5, e5, f5, t1, t2, t3, t4, t5, t6⟩ := findsBest_ok (Z := Z) (M := M4) (P := gI M 112) (S := gI M 109) (st := pn (gI M 109) 0) (H := pn (gI M 109) 1) (W0 := sW (gI M 109)) (lim := lim) h.2.1 (by rw [f34.I (by decide), j112]) hZ ⟨by rw [n4 0 (by decide)]; exact hS.v0.1, by rw [n4 1 (by decide)]; exact hS.v1.1, fun r hr => by rw [n4 _ (by omega)]; exact hS.v3.1 r hr⟩ (fun r => hS.v3.2.1 r) (fun i _ hi => n4 i hi) h.st.2 h.hz.2.2.1 h.hz.2.2.2 (fun b' hb' => by
      refine ⟨?_, ll b' hb'⟩
      rw [e4, ← hlm]
      dsimp only
      by_cases d : b' = b
      · rw [if_pos (by omega), if_pos d, d]
      · rw [if_neg (by omega), if_neg d, j109 _ (by omega)]
        exact (hS.v5 b' hb').1) k1 k2 k3 k4
    have e55 : gI M5 109 (40 + b) = nI (limS (gI M 109) b + more) := by rw [t1 _ (by omega), e4, if_pos rfl]
    generalize hM6 : sI M5 109 (40 + b) (nI (limS (gI M 109) b)) = M6
    have f56 : fr [109] M5 M6 := by
      rw [← hM6]
      exact fr_sI fr.rfl (by decide)
    have f36 : fr lG M3 M6 := ((f34.mono (by decide)).trans f5).trans (f56.mono (by decide))
    have kt6 : kt M M6 := by
      refine ⟨fun o a b2 c => ?_, fun k hk => ?_, fun i hi => ?_, fun j hj => ?_⟩
      · have c1 : o ∉ lG := fun z => by
          have : ∀ o, o ∈ lG → o ∈ scrL ∨ o = 108 ∨ o ∈ [96, 97, 98, 109, 110] := by decide
          rcases this o z with y | y | y
          · exact a y
          · exact b2 y
          · exact c y
        have q := f36 o c1
        have q2 := kt3.1 o a b2 c
        exact ⟨q.1.trans q2.1, q.2.1.trans q2.2.1, q.2.2.trans q2.2.2⟩
      · rw [f56.I (by decide), t3 k (by omega), f34.I (by decide)]
        exact kt3.2.1 k hk
      · rw [← hM6, gI_sI]
        by_cases d : i = 40 + b
        · rw [if_pos ⟨rfl, d⟩, d, (hS.v5 b (by omega)).1]
          rfl
        · rw [if_neg (fun z => d z.2), t1 i hi, e4, if_neg d, j109 i hi]
      · rw [f56.I (by decide), t2 j hj, f34.I (by decide)]
        exact kt3.2.2.2 j hj
    have hc6 : Cache (gI M 112) M6 := by
      unfold Cache
      rw [f36.I (by decide), f36.L (by decide), f36.L (by decide)]
      exact hc3
    have z6 : gI M6 108 0 = 0 := by
      rw [f56.I (by decide), t3 0 (by decide), f34.I (by decide)]
      exact z3
    refine ⟨v, v, M2, M6, ?_, ?_, invKt hI h kt6 hc6, z6, by rw [f36.L (by decide)]; exact o3⟩
    · unfold f_X11_worth
      rw [h.nB, if_pos (inR_of hb (by omega)), clT_ok, needRangeN (a := 1) (b := 9999) rfl rfl, if_pos (inN_of hm1 hm (by decide)), clT_ok, e1, cl_some, if_neg ne, e2, cl_some, hv]
    · show f_X12_worth Z (sL M2 124 0 v) (nI b) (nI more) = _
      unfold f_X12_worth
      rw [rg f2, cl_some, if_pos rfl, in_N (a := 1) (b := 9999) rfl rfl, cl_some, rfz T0_0 (by decide), if_pos (inN_of hm1 hm (by decide)), if_pos rfl, e3, cl_some, bd_eq, w3, if_neg (by rw [show (0 : Int32) = nI 0 from rfl, nI_eq (by omega) (by decide)]; exact c), show (40 : Int32) = nI 40 from rfl, nI_add, rdI_n (by omega) (by decide), e40, nI_add, wrI_n (by omega) (by decide), hM4, e5, cl_some, rdI_n (by omega) (by decide), e55, nI_sub (by omega), show limS (gI M 109) b + more - more = limS (gI M 109) b by omega, wrI_n (by omega) (by decide), hM6]
      show some ((FBM M lim K).2.1 - _, M6) = _
      rw [hv]
theorem ck_worth {Z : Nat} {M : Mem} (hZ : 4000 < Z) (hI : Inv M) (p1 p2 : Int32) : CK (f_L_worth Z M p1 p2) (fun M => f_X12_worth Z M p1 p2) (fun v => v) := by
  unfold f_L_worth
  rcases hI.2.2.2.2.2 with h | h
  · exact CK.er hI (e := 0) (c := 1) (w := 0) (by unfold f_X11_worth; rw [needBudget0 h.2.1]; rfl) rfl (by decide) (by unfold f_X12_worth; rw [noBudget0 h.1]; rfl)
  · by_cases hp : inR p1 (cB (gI M 112))
    · by_cases hp2 : inN p2 1 9999
      · obtain ⟨b, hb, rfl⟩ := inR_nI hp
        obtain ⟨n, h1, hn, rfl⟩ := inN_nI hp2
        exact CK.mk (cv := fun v => v) (ok_worth hZ hI h hb hn h1)
      · exact CK.er hI (e := 2) (c := 3) (w := 0) (by unfold f_X11_worth; rw [h.nB, if_pos hp, clT_ok, needRangeN (a := 1) (b := 9999) rfl rfl, if_neg hp2]; rfl) rfl (by decide) (by unfold f_X12_worth; rw [h.rB, if_pos hp, cl_some, if_pos rfl, in_N (a := 1) (b := 9999) rfl rfl, cl_some, rfz T0_0 (by decide), if_neg hp2]; rfl)
    · exact CK.er hI (e := 1) (c := 2) (w := 0) (by unfold f_X11_worth; rw [h.nB, if_neg hp]; rfl) rfl (by decide) (by unfold f_X12_worth; rw [h.rB, if_neg hp]; rfl)
theorem b_law_39 {Z L a : Nat} {xs : Nat → Int32} {M : Mem} {j : Mem → Option Unit} (hZ : 4000 < Z) (hI : Inv M) (ha : a + 6 ≤ L) (hL : L ≤ 3072) (hj : ∀ M1, Inv M1 → j M1 = some ()) : f_law_39 Z L xs M (nI a) j = some () := by
  unfold f_law_39
  simp (disch := omega) only [i1, i2, nI_add, rdX_n]
  generalize xs (a + 1) = p1
  generalize xs (a + 2) = p2
  exact (ck_worth hZ hI p1 p2).tail hj
