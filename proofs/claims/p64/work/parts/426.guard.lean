/-! guards -/
abbrev inR (p : Int32) (n : Nat) : Prop := 0 ≤ p.toInt ∧ p.toInt < (n : Int)
theorem inR_nI {p : Int32} {n : Nat} (h : inR p n) : ∃ a, a < n ∧ p = nI a := by
  obtain ⟨a, ha, rfl⟩ := nI_of (x := p) (fun z => by
    have := Int32.lt_iff_toInt_lt.mp z
    rw [Int32.toInt_zero] at this
    exact absurd h.1 (by omega))
  have h2 := h.2
  rw [nI_toInt ha] at h2
  exact ⟨a, by omega, rfl⟩
theorem inR_of {a n : Nat} (h : a < n) (hn : n < 2 ^ 31) : inR (nI a) n := by
  unfold inR
  rw [nI_toInt (by omega)]
  omega
theorem lt0 {p : Int32} : (p < 0) = (p.toInt < 0) := propext (by rw [Int32.lt_iff_toInt_lt, Int32.toInt_zero])
theorem ltn {p : Int32} {n : Nat} (hn : n < 2 ^ 31) : (p < nI n) = (p.toInt < (n : Int)) := propext (by rw [Int32.lt_iff_toInt_lt, nI_toInt hn])
/-- class -/
theorem needChain1 {Z : Nat} {M : Mem} {N : Nat} (h : gI M 3 0 = nI N) (hN : 1 ≤ N ∧ N ≤ 6) : f_X11_needChain Z M = some (.ok (), M) := by
  unfold f_X11_needChain
  have h0 : (nI N = (0 : Int32)) = False := eq_false (nI_ne0 (by omega) (by omega))
  simp only [bd_eq, h, h0, if_false]
theorem needChain0 {Z : Nat} {M : Mem} (h : gI M 3 0 = nI 0) : f_X11_needChain Z M = some (.error 0, M) := by
  unfold f_X11_needChain
  have h0 : (nI 0 = (0 : Int32)) = True := by decide
  simp only [bd_eq, h, h0, if_true]
theorem needState1 {Z : Nat} {M : Mem} {N : Nat} (h : gI M 3 0 = nI N) (hN : 1 ≤ N ∧ N ≤ 6) {p : Int32} : f_X11_needState Z M p = some (if inR p N then .ok () else .error 1, M) := by
  unfold f_X11_needState
  simp only [needChain1 h hN, clT_ok, jn_eq, bd_eq, h, lt0, ltn (show N < 2 ^ 31 by omega)]
  by_cases h1 : p.toInt < 0
  · rw [if_pos h1, if_neg (by omega)]
  · rw [if_neg h1]
    by_cases h2 : p.toInt < (N : Int)
    · rw [if_pos h2, if_pos (by omega)]
    · rw [if_neg h2, if_neg (by omega)]
theorem needState0 {Z : Nat} {M : Mem} (h : gI M 3 0 = nI 0) {p : Int32} : f_X11_needState Z M p = some (.error 0, M) := by
  unfold f_X11_needState
  rw [needChain0 h]
  rfl
theorem needAction1 {Z : Nat} {M : Mem} {N : Nat} {m : Nat → Nat} {pc : Nat → Nat → Nat} (h : ChC M N m pc) (hz : Sz N m pc) (hN : 1 ≤ N) {a : Nat} (ha : a < N) {p : Int32} : f_X11_needAction Z M (nI a) p = some (if inR p (m a) then .ok () else .error 1, M) := by
  have hm := hz.2.1 a
  have hN6 := hz.1
  unfold f_X11_needAction
  simp (disch := omega) only [needState1 h.1 ⟨hN, hN6⟩, if_pos (inR_of ha (by omega)), clT_ok, jn_eq, rdI_n, h.2.1 a (by omega), lt0, ltn (show m a < 2 ^ 31 by omega)]
  by_cases h1 : p.toInt < 0
  · rw [if_pos h1, if_neg (by omega)]
  · rw [if_neg h1]
    by_cases h2 : p.toInt < (m a : Int)
    · rw [if_pos h2, if_pos (by omega)]
    · rw [if_neg h2, if_neg (by omega)]
theorem needActionX {Z : Nat} {M : Mem} {N : Nat} (h : gI M 3 0 = nI N) (hN : 1 ≤ N ∧ N ≤ 6) {p p2 : Int32} (hp : ¬ inR p N) : f_X11_needAction Z M p p2 = some (.error 1, M) := by
  unfold f_X11_needAction
  rw [needState1 h hN, if_neg hp]
  rfl
theorem needAction0 {Z : Nat} {M : Mem} (h : gI M 3 0 = nI 0) {p p2 : Int32} : f_X11_needAction Z M p p2 = some (.error 0, M) := by
  unfold f_X11_needAction
  rw [needState0 h]
  rfl
theorem needBudget1 {Z : Nat} {M : Mem} {N B : Nat} (h : gI M 3 0 = nI N) (hN : 1 ≤ N ∧ N ≤ 6) (hB : gI M 3 1 = nI B) (hB3 : B ≤ 3) {p : Int32} : f_X11_needBudget Z M p = some (if inR p B then .ok () else .error 1, M) := by
  unfold f_X11_needBudget
  simp only [needChain1 h hN, clT_ok, jn_eq, bd_eq, hB, lt0, ltn (show B < 2 ^ 31 by omega)]
  by_cases h1 : p.toInt < 0
  · rw [if_pos h1, if_neg (by omega)]
  · rw [if_neg h1]
    by_cases h2 : p.toInt < (B : Int)
    · rw [if_pos h2, if_pos (by omega)]
    · rw [if_neg h2, if_neg (by omega)]
theorem needBudget0 {Z : Nat} {M : Mem} (h : gI M 3 0 = nI 0) {p : Int32} : f_X11_needBudget Z M p = some (.error 0, M) := by
  unfold f_X11_needBudget
  rw [needChain0 h]
  rfl
theorem needRange_eq {Z : Nat} {M : Mem} {p lo hi : Int32} : f_X11_needRange Z M p lo hi = some (if lo.toInt ≤ p.toInt ∧ p.toInt ≤ hi.toInt then .ok () else .error 2, M) := by
  unfold f_X11_needRange
  simp only [jn_eq, Int32.lt_iff_toInt_lt, Int32.le_iff_toInt_le]
  by_cases h1 : p.toInt < lo.toInt
  · rw [if_pos h1, if_neg (by omega)]
  · rw [if_neg h1]
    by_cases h2 : p.toInt ≤ hi.toInt
    · rw [if_pos h2, if_pos (by omega)]
    · rw [if_neg h2, if_neg (by omega)]
theorem needTime1 {Z : Nat} {M : Mem} {N H : Nat} (h : gI M 3 0 = nI N) (hN : 1 ≤ N ∧ N ≤ 6) (hH : gI M 10 4 = nI H) (h5 : H ≤ 5) {p : Int32} : f_X11_needTime Z M p = some (if inR p (H + 1) then .ok () else .error 2, M) := by
  unfold f_X11_needTime
  have e : (0 : Int32).toInt = 0 := by decide
  simp only [needChain1 h hN, clT_ok, bd_eq, hH, needRange_eq, nI_toInt (show H < 2 ^ 31 by omega), e]
  by_cases h1 : inR p (H + 1)
  · rw [if_pos h1, if_pos (by unfold inR at h1; omega)]
    rfl
  · rw [if_neg h1, if_neg (by unfold inR at h1; omega)]
    rfl
theorem needTime0 {Z : Nat} {M : Mem} (h : gI M 3 0 = nI 0) {p : Int32} : f_X11_needTime Z M p = some (.error 0, M) := by
  unfold f_X11_needTime
  rw [needChain0 h]
  rfl
theorem needWalk0 {Z : Nat} {M : Mem} (h : gI M 3 0 = nI 0) : f_X11_needWalk Z M = some (.error 0, M) := by
  unfold f_X11_needWalk
  rw [needChain0 h]
  rfl
theorem needWalk1 {Z : Nat} {M : Mem} {N : Nat} (h : gI M 3 0 = nI N) (hN : 1 ≤ N ∧ N ≤ 6) : f_X11_needWalk Z M = some (if gI M 10 6 = -1 then .error 0 else .ok (), M) := by
  unfold f_X11_needWalk
  simp only [needChain1 h hN, clT_ok, bd_eq]
  split <;> rfl
/-! reference: T0, after the reset; T0 c, after a refusal -/
def T0 (M : Mem) : Mem := sI M 108 0 0
def Tc (M : Mem) (c : Int32) : Mem := sI (sI M 108 0 0) 108 0 c
theorem T0.kp {M : Mem} : kp M (T0 M) := kp.thr
theorem Tc.kp {M : Mem} {c : Int32} : kp M (Tc M c) := kp.thr.trans kp.thr
theorem T0_0 {M : Mem} : gI (T0 M) 108 0 = 0 := by unfold T0; rw [gI_sI]; simp
theorem Tc_0 {M : Mem} {c : Int32} : gI (Tc M c) 108 0 = c := by unfold Tc; rw [gI_sI]; simp
theorem T0_I {M : Mem} {o : Nat} (h : o ≠ 108) : gI (T0 M) o = gI M o := by unfold T0; rw [gI_sI', if_neg h]
theorem T0_L {M : Mem} {o : Nat} : gL (T0 M) o = gL M o := rfl
theorem T0_R {M : Mem} {o : Nat} : gR (T0 M) o = gR M o := rfl
theorem Tc_I {M : Mem} {o : Nat} {c : Int32} (h : o ≠ 108) : gI (Tc M c) o = gI M o := by unfold Tc; rw [gI_sI', if_neg h, gI_sI', if_neg h]
theorem Tc_L {M : Mem} {o : Nat} {c : Int32} : gL (Tc M c) o = gL M o := rfl
theorem Tc_R {M : Mem} {o : Nat} {c : Int32} : gR (Tc M c) o = gR M o := rfl
theorem ltop {n : Nat} (h1 : 1 ≤ n) (h : n < 2 ^ 31) : (nI n - (1 : Int32)).toInt64.toInt = (n : Int) - 1 := by
  obtain ⟨k, rfl⟩ : ∃ k, n = k + 1 := ⟨n - 1, by omega⟩
  rw [nI_pred, Int32.toInt_toInt64, nI_toInt (by omega)]
  omega
theorem ltop0 : (nI 0 - (1 : Int32)).toInt64.toInt = (0 : Int) - 1 := by decide
theorem ltopn {n : Nat} (h : n < 2 ^ 31) : (nI n - (1 : Int32)).toInt64.toInt = (n : Int) - 1 := by
  by_cases h0 : n = 0
  · subst h0
    exact ltop0
  · exact ltop (by omega) h
theorem bI0 {c : Prop} [Decidable c] : (bI c = 0) = ¬ c := by
  unfold bI
  by_cases h : c <;> simp [h]
