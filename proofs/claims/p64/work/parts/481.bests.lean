/-! bestGain, bestAction, pureSets, worth -/
def limS (S : Nat → Int32) (b : Nat) : Nat := pn S (40 + b)
def FBM (M : Mem) (lim : Nat → Nat) (K : Nat) : Nat × Int64 × (Nat → Nat) := FB (gI M 112) (gI M 109) (pn (gI M 109) 0) (pn (gI M 109) 1) lim K
def PMM (M M1 : Mem) : Prop := PM (gI M 112) (gI M 109) (pn (gI M 109) 0) (pn (gI M 109) 1) M1
theorem PMM.cache {M M1 : Mem} (h : PMM M M1) (hM : Has M) : Cache (gI M 112) M1 := Or.inr ⟨_, _, h.2.2.2.2.1, h.2.2.2.2.2.1, hM.st.2, hM.hz.2.2.1, hM.hz.2.2.2, fun k c hc => h.2.2.2.2.2.2 k (cho_lt hM.2.1 hc) c hc⟩
theorem lB_no {o : Nat} (h1 : 3 ≤ o) (h2 : o ≤ 15) : o ∉ lB9 := fun z => by
  have := lB_in.mp z
  omega
theorem Has.lm {M : Mem} (h : Has M) {b : Nat} (hb : b < cB (gI M 112)) : gI M 13 b = nI (limS (gI M 109) b) ∧ limS (gI M 109) b ≤ 9999 := by
  have hB := h.b.2.2
  have e := h.VS.v5 b (by omega)
  rw [show (13 : Nat) = 10 + 3 from rfl, h.RS.2.2.2.1 b (by omega)]
  exact e
theorem clsBest {Z : Nat} {M M0 : Mem} (hZ : 4000 < Z) (h : Has M) (f0 : fr lB9 M M0) (hC : Cache (gI M 112) M0) {p0 p1 : Int32} {lim : Nat → Nat} (hl : ∀ b, b < cB (gI M 112) → (if nI b = p0 then nI (limS (gI M 109) b) + p1 else nI (limS (gI M 109) b)) = nI (lim b) ∧ lim b ≤ 20000) {K : Nat} (k1 : 1 ≤ K) (k2 : K ≤ 729) (k3 : ∀ k, k < K → ∃ c, cho (gI M 112) k = some c) (k4 : cho (gI M 112) K = none) :
    ∃ M', f_X5_findBest Z M0 p0 p1 = some ((FBM M lim K).2.1, M') ∧ fr lB9 M M' ∧ PMM M M' ∧ (0 < (FBM M lim K).1 → ∀ y, y < 6 → gI M' 101 y = nI ((FBM M lim K).2.2 y)) := by
  obtain ⟨M', e, f, p, g⟩ := findBest_ok (Z := Z) (M := M0) (P := gI M 112) (S := gI M 109) h.2.1 (h.2.2.1.same (fun o a b => f0.I (lB_no a (by omega)))) (h.RS.same (fun i hi => f0.I (lB_no (by omega) (by omega)))) hZ (by rw [f0.I (by decide)]; exact h.st.1) (by rw [f0.I (by decide)]; exact h.hz.1) h.st.2 h.hz.2.2.1 h.hz.2.2.2 hC (p0 := p0) (p1 := p1) (lim := lim) (fun b hb => by rw [f0.I (by decide), (h.lm hb).1]; exact hl b hb) k1 k2 k3 k4
  exact ⟨M', e, f0.trans f, p, g⟩
theorem lim0 {M : Mem} (h : Has M) : ∀ b, b < cB (gI M 112) → (if nI b = (-1 : Int32) then nI (limS (gI M 109) b) + 0 else nI (limS (gI M 109) b)) = nI (limS (gI M 109) b) ∧ limS (gI M 109) b ≤ 20000 := fun b hb => by
  have hB := h.b.2.2
  rw [if_neg (nI_ne_neg (by omega))]
  have := (h.lm hb).2
  exact ⟨rfl, by omega⟩
theorem Has.s108 {M M0 : Mem} (h : Has M) (f0 : fr lB9 M M0) (v : Int64) : gI (sL M0 124 0 v) 108 1 = nI 1 := by
  rw [gI_sL', f0.I (by decide)]
  exact h.1
theorem Has.s112' {M M0 : Mem} (f0 : fr lB9 M M0) (v : Int64) : gI (sL M0 124 0 v) 112 = gI M 112 := by rw [gI_sL', f0.I (by decide)]
