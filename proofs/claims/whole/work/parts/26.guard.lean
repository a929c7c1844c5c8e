/-! guards -/
abbrev inR (p : Int32) (n : Nat) : Prop := 0 ≤ p.toInt ∧ p.toInt < (n : Int)
theorem inR_nI {p : Int32} {n : Nat} (h : inR p n) : ∃ a, a < n ∧ p = nI a := by
  obtain ⟨a, ha, rfl⟩ := nI_of (x := p) (fun z => by
    have := Int32.lt_iff_toInt_lt.mp z
    rw [Int32.toInt_zero] at this
    exact absurd h.1 (by omega))
  have h2 := h.2
  rw [nI_toInt ha] at h2
  exact ⟨a, by omega, rfl⟩
theorem inR_of {a n : Nat} (h : a < n) (hn : n < 2 ^ 31) : inR (nI a) n := by
  unfold inR
  rw [nI_toInt (by omega)]
  omega
theorem lt0 {p : Int32} : (p < 0) = (p.toInt < 0) := propext (by rw [Int32.lt_iff_toInt_lt, Int32.toInt_zero])
theorem ltn {p : Int32} {n : Nat} (hn : n < 2 ^ 31) : (p < nI n) = (p.toInt < (n : Int)) := propext (by rw [Int32.lt_iff_toInt_lt, nI_toInt hn])
/-- class -/
theorem needChain1 {Z : Nat} {M : Mem} {N : Nat} (h : gI M 3 0 = nI N) (hN : 1 ≤ N ∧ N ≤ 6) : f_X11_needChain Z M = some (.ok (), M) := by
  unfold f_X11_needChain
  have h0 : (nI N = (0 : Int32)) = False := eq_false (nI_ne0 (by omega) (by omega))
  simp only [bd_eq, h, h0, if_false]
theorem needChain0 {Z : Nat} {M : Mem} (h : gI M 3 0 = nI 0) : f_X11_needChain Z M = some (.error 0, M) := by
  unfold f_X11_needChain
  have h0 : (nI 0 = (0 : Int32)) = True := by decide
  simp only [bd_eq, h, h0, if_true]
theorem needState1 {Z : Nat} {M : Mem} {N : Nat} (h : gI M 3 0 = nI N) (hN : 1 ≤ N ∧ N ≤ 6) {p : Int32} : f_X11_needState Z M p = some (if inR p N then .ok () else .error 1, M) := by
  unfold f_X11_needState
  simp only [needChain1 h hN, clT_ok, jn_eq, bd_eq, h, lt0, ltn (show N < 2 ^ 31 by omega)]
  by_cases h1 : p.toInt < 0
  · rw [if_pos h1, if_neg (by omega)]
  · rw [if_neg h1]
    by_cases h2 : p.toInt < (N : Int)
    · rw [if_pos h2, if_pos (by omega)]
    · rw [if_neg h2, if_neg (by omega)]
theorem needState0 {Z : Nat} {M : Mem} (h : gI M 3 0 = nI 0) {p : Int32} : f_X11_needState Z M p = some (.error 0, M) := by
  unfold f_X11_needState
  rw [needChain0 h]
  rfl
theorem needAction1 {Z : Nat} {M : Mem} {N : Nat} {m : Nat → Nat} {pc : Nat → Nat → Nat} (h : ChC M N m pc) (hz : Sz N m pc) (hN : 1 ≤ N) {a : Nat} (ha : a < N) {p : Int32} : f_X11_needAction Z M (nI a) p = some (if inR p (m a) then .ok () else .error 1, M) := by
  have hm := hz.2.1 a
  have hN6 := hz.1
  unfold f_X11_needAction
  simp (disch := omega) only [needState1 h.1 ⟨hN, hN6⟩, if_pos (inR_of ha (by omega)), clT_ok, jn_eq, rdI_n, h.2.1 a (by omega), lt0, ltn (show m a < 2 ^ 31 by omega)]
  by_cases h1 : p.toInt < 0
  · rw [if_pos h1, if_neg (by omega)]
  · rw [if_neg h1]
    by_cases h2 : p.toInt < (m a : Int)
    · rw [if_pos h2, if_pos (by omega)]
    · rw [if_neg h2, if_neg (by omega)]
theorem needActionX {Z : Nat} {M : Mem} {N : Nat} (h : gI M 3 0 = nI N) (hN : 1 ≤ N ∧ N ≤ 6) {p p2 : Int32} (hp : ¬ inR p N) : f_X11_needAction Z M p p2 = some (.error 1, M) := by
  unfold f_X11_needAction
  rw [needState1 h hN, if_neg hp]
  rfl
theorem needAction0 {Z : Nat} {M : Mem} (h : gI M 3 0 = nI 0) {p p2 : Int32} : f_X11_needAction Z M p p2 = some (.error 0, M) := by
  unfold f_X11_needAction
  rw [needState0 h]
  rfl
theorem needBudget1 {Z : Nat} {M : Mem} {N B : Nat} (h : gI M 3 0 = nI N) (hN : 1 ≤ N ∧ N ≤ 6) (hB : gI M 3 1 = nI B) (hB3 : B ≤ 3) {p : Int32} : f_X11_needBudget Z M p = some (if inR p B then .ok () else .error 1, M) := by
  unfold f_X11_needBudget
  simp only [needChain1 h hN, clT_ok, jn_eq, bd_eq, hB, lt0, ltn (show B < 2 ^ 31 by omega)]
  by_cases h1 : p.toInt < 0
  · rw [if_pos h1, if_neg (by omega)]
  · rw [if_neg h1]
    by_cases h2 : p.toInt < (B : Int)
    · rw [if_pos h2, if_pos (by omega)]
    · rw [if_neg h2, if_neg (by omega)]
theorem needBudget0 {Z : Nat} {M : Mem} (h : gI M 3 0 = nI 0) {p : Int32} : f_X11_needBudget Z M p = some (.error 0, M) := by
  unfold f_X11_needBudget
  rw [needChain0 h]
  rfl
theorem needRange_eq {Z : Nat} {M : Mem} {p lo hi : Int32} : f_X11_needRange Z M p lo hi = some (if lo.toInt ≤ p.toInt ∧ p.toInt ≤ hi.toInt then .ok () else .error 2, M) := by
  unfold f_X11_needRange
  simp only [jn_eq, Int32.lt_iff_toInt_lt, Int32.le_iff_toInt_le]
  by_cases h1 : p.toInt < lo.toInt
  · rw [if_pos h1, if_neg (by omega)]
  · rw [if_neg h1]
    by_cases h2 : p.toInt ≤ hi.toInt
    · rw [if_pos h2, if_pos (by omega)]
    · rw [if_neg h2, if_neg (by omega)]
theorem needTime1 {Z : Nat} {M : Mem} {N H : Nat} (h : gI M 3 0 = nI N) (hN : 1 ≤ N ∧ N ≤ 6) (hH : gI M 10 4 = nI H) (h5 : H ≤ 5) {p : Int32} : f_X11_needTime Z M p = some (if inR p (H + 1) then .ok () else .error 2, M) := by
  unfold f_X11_needTime
  have e : (0 : Int32).toInt = 0 := by decide
  simp only [needChain1 h hN, clT_ok, bd_eq, hH, needRange_eq, nI_toInt (show H < 2 ^ 31 by omega), e]
  by_cases h1 : inR p (H + 1)
  · rw [if_pos h1, if_pos (by unfold inR at h1; omega)]
    rfl
  · rw [if_neg h1, if_neg (by unfold inR at h1; omega)]
    rfl
theorem needTime0 {Z : Nat} {M : Mem} (h : gI M 3 0 = nI 0) {p : Int32} : f_X11_needTime Z M p = some (.error 0, M) := by
  unfold f_X11_needTime
  rw [needChain0 h]
  rfl
theorem needWalk0 {Z : Nat} {M : Mem} (h : gI M 3 0 = nI 0) : f_X11_needWalk Z M = some (.error 0, M) := by
  unfold f_X11_needWalk
  rw [needChain0 h]
  rfl
theorem needWalk1 {Z : Nat} {M : Mem} {N : Nat} (h : gI M 3 0 = nI N) (hN : 1 ≤ N ∧ N ≤ 6) : f_X11_needWalk Z M = some (if gI M 10 6 = -1 then .error 0 else .ok (), M) := by
  unfold f_X11_needWalk
  simp only [needChain1 h hN, clT_ok, bd_eq]
  split <;> rfl
/-! reference: T0, after the reset; T0 c, after a refusal -/
def T0 (M : Mem) : Mem := sI M 108 0 0
def Tc (M : Mem) (c : Int32) : Mem := sI (sI M 108 0 0) 108 0 c
theorem T0.kp {M : Mem} : kp M (T0 M) := kp.thr
theorem Tc.kp {M : Mem} {c : Int32} : kp M (Tc M c) := kp.thr.trans kp.thr
theorem T0_0 {M : Mem} : gI (T0 M) 108 0 = 0 := by unfold T0; rw [gI_sI]; simp
theorem Tc_0 {M : Mem} {c : Int32} : gI (Tc M c) 108 0 = c := by unfold Tc; rw [gI_sI]; simp
theorem T0_I {M : Mem} {o : Nat} (h : o ≠ 108) : gI (T0 M) o = gI M o := by unfold T0; rw [gI_sI', if_neg h]
theorem T0_L {M : Mem} {o : Nat} : gL (T0 M) o = gL M o := rfl
theorem T0_R {M : Mem} {o : Nat} : gR (T0 M) o = gR M o := rfl
theorem Tc_I {M : Mem} {o : Nat} {c : Int32} (h : o ≠ 108) : gI (Tc M c) o = gI M o := by unfold Tc; rw [gI_sI', if_neg h, gI_sI', if_neg h]
theorem Tc_L {M : Mem} {o : Nat} {c : Int32} : gL (Tc M c) o = gL M o := rfl
theorem Tc_R {M : Mem} {o : Nat} {c : Int32} : gR (Tc M c) o = gR M o := rfl
theorem ltop {n : Nat} (h1 : 1 ≤ n) (h : n < 2 ^ 31) : (nI n - (1 : Int32)).toInt64.toInt = (n : Int) - 1 := by
  obtain ⟨k, rfl⟩ : ∃ k, n = k + 1 := ⟨n - 1, by omega⟩
  rw [nI_pred, Int32.toInt_toInt64, nI_toInt (by omega)]
  omega
theorem ltop0 : (nI 0 - (1 : Int32)).toInt64.toInt = (0 : Int) - 1 := by decide
theorem ltopn {n : Nat} (h : n < 2 ^ 31) : (nI n - (1 : Int32)).toInt64.toInt = (n : Int) - 1 := by
  by_cases h0 : n = 0
  · subst h0
    exact ltop0
  · exact ltop (by omega) h
theorem in_n {Z : Nat} {M : Mem} {p : Int32} {n : Nat} (hn : n < 2 ^ 31) : f_X12_in Z M p.toInt64 0 (nI n - (1 : Int32)).toInt64 = some (bI (inR p n), M) := by
  rw [in_eq, ltopn hn]
  have e : (0 : Int64).toInt = 0 := by decide
  have e2 : bI ((0 : Int64).toInt ≤ p.toInt ∧ p.toInt ≤ (n : Int) - 1) = bI (inR p n) := by
    unfold bI
    rw [e]
    by_cases h : inR p n
    · rw [if_pos h, if_pos (by unfold inR at h; omega)]
    · rw [if_neg h, if_neg (by unfold inR at h; omega)]
  rw [e2]
theorem isState_eq {Z : Nat} {M : Mem} {N : Nat} (h : gI M 112 0 = nI N) (hN : N ≤ 6) {p : Int32} : f_X12_isState Z M p = some (bI (inR p N), M) := by
  unfold f_X12_isState
  rw [rd112 (c := 0) (i := 0) (by decide) (by decide), h, in_n (by omega), cl_some, if_pos (bI_and _)]
theorem isBudget_eq {Z : Nat} {M : Mem} {B : Nat} (h : gI M 112 1 = nI B) (hB : B ≤ 3) {p : Int32} : f_X12_isBudget Z M p = some (bI (inR p B), M) := by
  unfold f_X12_isBudget
  rw [rd112 (c := 1) (i := 1) (by decide) (by decide), h, in_n (by omega), cl_some, if_pos (bI_and _)]
theorem isTime_eq {Z : Nat} {M : Mem} {H : Nat} (h : gI M 109 1 = nI H) (hH : H ≤ 5) {p : Int32} : f_X12_isTime Z M p = some (bI (inR p (H + 1)), M) := by
  unfold f_X12_isTime
  rw [rd109 (c := 1) (i := 1) (by decide) (by decide), h, in_eq]
  have e : (0 : Int64).toInt = 0 := by decide
  have e2 : bI ((0 : Int64).toInt ≤ p.toInt ∧ p.toInt ≤ (nI H).toInt64.toInt) = bI (inR p (H + 1)) := by
    unfold bI
    rw [e, Int32.toInt_toInt64, nI_toInt (by omega)]
    by_cases h : inR p (H + 1)
    · rw [if_pos h, if_pos (by unfold inR at h; omega)]
    · rw [if_neg h, if_neg (by unfold inR at h; omega)]
  rw [e2, cl_some, if_pos (bI_and _)]
theorem bI0 {c : Prop} [Decidable c] : (bI c = 0) = ¬ c := by
  unfold bI
  by_cases h : c <;> simp [h]
theorem isAction_eq {Z : Nat} {M : Mem} {N : Nat} {m : Nat → Nat} {pc : Nat → Nat → Nat} (h : ChR M N m pc) (hz : Sz N m pc) {a : Nat} (ha : a < N) {p : Int32} : f_X12_isAction Z M (nI a) p = some (bI (inR p (m a)), M) := by
  have hN := hz.1
  have hm := hz.2.1 a
  unfold f_X12_isAction
  rw [isState_eq h.1 hN, cl_some, if_neg (by rw [bI0]; simp only [Classical.not_not]; exact inR_of ha (by omega)), rd112 (c := 8 + nI a) (i := 8 + a) (by rw [i8, nI_add]) (by omega), h.2.1 a (by omega), in_n (by omega), cl_some]
  unfold bI
  by_cases h1 : inR p (m a)
  · rw [if_pos h1]; rfl
  · rw [if_neg h1]; rfl
theorem isActionX {Z : Nat} {M : Mem} {N : Nat} (h : gI M 112 0 = nI N) (hN : N ≤ 6) {p p2 : Int32} (hp : ¬ inR p N) : f_X12_isAction Z M p p2 = some (0, M) := by
  unfold f_X12_isAction
  rw [isState_eq h hN, cl_some, if_pos (by rw [bI0]; exact hp)]
/-- the pattern 'refuse(!is, 2)' -/
theorem ref_bI {Z : Nat} {M : Mem} {c : Prop} [Decidable c] {v : Int32} (h0 : gI M 108 0 = 0) (hv : v ≠ 0) : (if bI c = 0 then f_X12_refuse Z M 1 v else f_X12_refuse Z M 0 v) = if c then some (0, M) else some (1, sI M 108 0 v) := by
  rw [ref0 h0, ref1 h0 hv]
  by_cases h : c
  · rw [if_neg (by rw [bI0]; simp [h]), if_pos h]
  · rw [if_pos (by rw [bI0]; exact h), if_neg h]
theorem noState1 {Z : Nat} {M : Mem} {N : Nat} (hc : gI M 108 1 = nI 1) (h : gI M 112 0 = nI N) (hN : N ≤ 6) {p : Int32} : f_X12_noState Z M p = if inR p N then some (0, T0 M) else some (1, Tc M 2) := by
  unfold f_X12_noState
  have e : gI (sI M 108 0 0) 112 0 = nI N := by rw [gI_sI, if_neg (by decide)]; exact h
  rw [noChain1 hc, cl_some, if_pos rfl, isState_eq e hN, cl_some]
  simp only [jn_eq]
  have h0 : gI (sI M 108 0 0) 108 0 = 0 := T0_0
  by_cases h1 : inR p N
  · rw [if_neg (by rw [bI0]; simp [h1]), if_pos h1, ref0 h0]
    rfl
  · rw [if_pos (by rw [bI0]; exact h1), if_neg h1, ref1 h0 (by decide)]
    rfl
theorem noState0 {Z : Nat} {M : Mem} (hc : gI M 108 1 = nI 0) {p : Int32} : f_X12_noState Z M p = some (1, Tc M 1) := by
  unfold f_X12_noState
  rw [noChain0 hc]
  rfl
theorem noBudget1 {Z : Nat} {M : Mem} {B : Nat} (hc : gI M 108 1 = nI 1) (h : gI M 112 1 = nI B) (hB : B ≤ 3) {p : Int32} : f_X12_noBudget Z M p = if inR p B then some (0, T0 M) else some (1, Tc M 2) := by
  unfold f_X12_noBudget
  have e : gI (sI M 108 0 0) 112 1 = nI B := by rw [gI_sI, if_neg (by decide)]; exact h
  rw [noChain1 hc, cl_some, if_pos rfl, isBudget_eq e hB, cl_some]
  simp only [jn_eq]
  have h0 : gI (sI M 108 0 0) 108 0 = 0 := T0_0
  by_cases h1 : inR p B
  · rw [if_neg (by rw [bI0]; simp [h1]), if_pos h1, ref0 h0]
    rfl
  · rw [if_pos (by rw [bI0]; exact h1), if_neg h1, ref1 h0 (by decide)]
    rfl
theorem noBudget0 {Z : Nat} {M : Mem} (hc : gI M 108 1 = nI 0) {p : Int32} : f_X12_noBudget Z M p = some (1, Tc M 1) := by
  unfold f_X12_noBudget
  rw [noChain0 hc]
  rfl
theorem noAction1 {Z : Nat} {M : Mem} {N : Nat} {m : Nat → Nat} {pc : Nat → Nat → Nat} (hc : gI M 108 1 = nI 1) (h : ChR M N m pc) (hz : Sz N m pc) {a : Nat} (ha : a < N) {p : Int32} : f_X12_noAction Z M (nI a) p = if inR p (m a) then some (0, T0 M) else some (1, Tc M 2) := by
  unfold f_X12_noAction
  have e : ChR (sI M 108 0 0) N m pc := h.fr (l := [108]) (fr_sI fr.rfl (by decide)) (by decide)
  rw [noChain1 hc, cl_some, if_pos rfl, isAction_eq e hz ha, cl_some]
  simp only [jn_eq]
  have h0 : gI (sI M 108 0 0) 108 0 = 0 := T0_0
  by_cases h1 : inR p (m a)
  · rw [if_neg (by rw [bI0]; simp [h1]), if_pos h1, ref0 h0]
    rfl
  · rw [if_pos (by rw [bI0]; exact h1), if_neg h1, ref1 h0 (by decide)]
    rfl
theorem noActionX {Z : Nat} {M : Mem} {N : Nat} (hc : gI M 108 1 = nI 1) (h : gI M 112 0 = nI N) (hN : N ≤ 6) {p p2 : Int32} (hp : ¬ inR p N) : f_X12_noAction Z M p p2 = some (1, Tc M 2) := by
  unfold f_X12_noAction
  have e : gI (sI M 108 0 0) 112 0 = nI N := by rw [gI_sI, if_neg (by decide)]; exact h
  rw [noChain1 hc, cl_some, if_pos rfl, isActionX e hN hp, cl_some]
  simp only [jn_eq]
  have h0 : gI (sI M 108 0 0) 108 0 = 0 := T0_0
  rw [if_pos trivial, ref1 h0 (by decide)]
  rfl
theorem noAction0 {Z : Nat} {M : Mem} (hc : gI M 108 1 = nI 0) {p p2 : Int32} : f_X12_noAction Z M p p2 = some (1, Tc M 1) := by
  unfold f_X12_noAction
  rw [noChain0 hc]
  rfl
