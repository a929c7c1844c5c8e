/-! what a loaded object gives the methods -/
theorem nI_pn {f : Nat → Int32} {i : Nat} (h : f i = nI (pn f i)) {n : Nat} (hn : pn f i = n) : f i = nI n := by rw [h, hn]
theorem VP.at {P : Nat → Int32} (h : VP P) {i : Nat} (hi : i < 344) (h2 : ¬ (14 ≤ i ∧ i < 32)) : P i = nI (pn P i) := h.1 i hi h2
theorem VP.m {P : Nat → Int32} (h : VP P) {x : Nat} (hx : x < 6) : P (8 + x) = nI (cM P x) := by
  rw [h.at (by omega) (by omega), cM, if_pos hx]
theorem VP.p {P : Nat → Int32} (h : VP P) {r y : Nat} (hr : r < 18) (hy : y < 6) : P (86 + r * 6 + y) = nI (cP P r y) := by
  rw [h.at (by omega) (by omega), cP, if_pos ⟨hr, hy⟩]
theorem VP.a {P : Nat → Int32} (h : VP P) {r b : Nat} (hr : r < 18) (hb : b < 3) : P (32 + r * 3 + b) = nI (cA P r b) := by
  rw [h.at (by omega) (by omega), cA, if_pos ⟨hr, hb⟩]
theorem VP.n {P : Nat → Int32} (h : VP P) : P 0 = nI (cN P) := h.at (by decide) (by decide)
theorem VP.b {P : Nat → Int32} (h : VP P) : P 1 = nI (cB P) := h.at (by decide) (by decide)
theorem VP.sz {P : Nat → Int32} (h : VP P) : Sz (cN P) (cM P) (cP P) := ⟨h.2.1.2.1, h.2.2.1, h.2.2.2.2.2.2.1⟩
theorem VP.chR {P : Nat → Int32} {M : Mem} (h : VP P) (hM : gI M 112 = P) : ChR M (cN P) (cM P) (cP P) := by
  unfold ChR
  rw [hM]
  exact ⟨h.n, fun x hx => h.m hx, fun r hr y hy => h.p hr hy⟩
theorem RP.chC {P : Nat → Int32} {M : Mem} (h : VP P) (hr : RP P M 3) : ChC M (cN P) (cM P) (cP P) := by
  refine ⟨hr.1.trans h.n, fun x hx => ?_, fun r hr9 y hy => ?_⟩
  · rw [show (4 : Nat) = 3 + 1 from rfl, hr.2.2.1 x hx]
    exact h.m hx
  · rw [show (7 : Nat) = 3 + 4 from rfl, hr.2.2.2.2.2.1 _ (by omega), ← Nat.add_assoc]
    exact h.p hr9 hy
theorem VS.toSR {P S : Nat → Int32} {M : Mem} (h : VS P S) (hM : gI M 109 = S) : SR M (pn S 0) (pn S 1) (sW S) := by
  unfold SR
  rw [hM]
  exact ⟨h.1.1, h.2.1.1, fun r hr => h.2.2.2.1 r hr⟩
theorem RS.w {P S : Nat → Int32} {M : Mem} {o : Nat} (h : VS P S) (hr : RS P M o S) (hN : cN P ≤ 6) : ∀ r, r < 3 * cN P → gI M (o + 1) r = nI (sW S r) := fun r hr9 => by
  rw [hr.2.1 r hr9]
  exact h.2.2.2.1 r (by omega)
/-- a step's parts sum to 1000 -/
theorem Tp_sum {P S : Nat → Int32} (h : VP P) (hs : VS P S) : ∀ x, x < cN P → sm (cN P) (Tp (cM P) (cP P) (sW S) x) = 1000 := by
  intro x hx
  show sm (cN P) (fun y => sm (cM P x) (fun a => sW S (x * 3 + a) * cP P (x * 3 + a) y)) = 1000
  rw [sm_swap]
  have h1 : sm (cM P x) (fun j => sm (cN P) (fun i => sW S (x * 3 + j) * cP P (x * 3 + j) i)) = sm (cM P x) (fun j => 100 * sW S (x * 3 + j)) := sm_congr (fun a ha => by
    rw [sm_mul, show sm (cN P) (fun i => cP P (x * 3 + a) i) = 100 from (h.2.2.2.2.2.2.2 x hx a ha).1, Nat.mul_comm])
  rw [h1, sm_mul, (hs.2.2.2.2.2.1 x hx).1]
theorem Tp_le {P S : Nat → Int32} (h : VP P) (hs : VS P S) {x y : Nat} (hx : x < cN P) (hy : y < cN P) : Tp (cM P) (cP P) (sW S) x y ≤ 1000 := by
  have h1 := Tp_sum h hs x hx
  have h2 := le_sm (f := Tp (cM P) (cP P) (sW S) x) hy
  omega
/-! the reference's guards -/
def bI (c : Prop) [Decidable c] : Int32 := if c then 1 else 0
theorem bI_and (c : Prop) [Decidable c] : bI c &&& 1 = bI c := by
  unfold bI
  split <;> rfl
theorem ref0 {Z : Nat} {M : Mem} {c : Int32} (h : gI M 108 0 = 0) : f_X12_refuse Z M 0 c = some (0, M) := by
  unfold f_X12_refuse
  simp only [bd_eq, jn_eq, h, if_true]
theorem ref1 {Z : Nat} {M : Mem} {c : Int32} (h : gI M 108 0 = 0) (hc : c ≠ 0) : f_X12_refuse Z M 1 c = some (1, sI M 108 0 c) := by
  unfold f_X12_refuse
  have h1 : ((1 : Int32) = 0) = False := by decide
  have h2 : gI (sI M 108 0 c) 108 0 = c := by rw [gI_sI]; simp
  simp only [bd_eq, jn_eq, h, if_true, h1, if_false, h2, hc]
theorem noChain1 {Z : Nat} {M : Mem} (h : gI M 108 1 = nI 1) : f_X12_noChain Z M = some (0, sI M 108 0 0) := by
  unfold f_X12_noChain
  have h1 : gI (sI M 108 0 0) 108 1 = nI 1 := by rw [gI_sI]; simp [h]
  have h2 : gI (sI M 108 0 0) 108 0 = 0 := by rw [gI_sI]; simp
  have h3 : (nI 1 = (0 : Int32)) = False := by decide
  have h4 : ((0 : Int32) &&& 1 = 0) = True := by decide
  simp only [bd_eq, jn_eq, h1, h3, if_false, ref0 h2, cl_some, h4, if_true]
theorem noChain0 {Z : Nat} {M : Mem} (h : gI M 108 1 = nI 0) : f_X12_noChain Z M = some (1, sI (sI M 108 0 0) 108 0 1) := by
  unfold f_X12_noChain
  have h1 : gI (sI M 108 0 0) 108 1 = nI 0 := by rw [gI_sI]; simp [h]
  have h2 : gI (sI M 108 0 0) 108 0 = 0 := by rw [gI_sI]; simp
  have h3 : (nI 0 = (0 : Int32)) = True := by decide
  have h4 : ((1 : Int32) &&& 1 = 1) = True := by decide
  simp only [bd_eq, jn_eq, h1, h3, if_true, ref1 h2 (show (1 : Int32) ≠ 0 by decide), cl_some, h4]
theorem told1 {Z : Nat} {M : Mem} {v : Int32} (h : gI M 108 1 = nI 1) : f_X12_told Z M v = some (v, sI M 108 0 0) := by
  unfold f_X12_told
  have h1 : gI (sI M 108 0 0) 108 1 = nI 1 := by rw [gI_sI]; simp [h]
  have h3 : (nI 1 = (0 : Int32)) = False := by decide
  simp only [bd_eq, h1, h3, if_false]
theorem told0 {Z : Nat} {M : Mem} {v : Int32} (h : gI M 108 1 = nI 0) : f_X12_told Z M v = some (0, sI M 108 0 0) := by
  unfold f_X12_told
  have h1 : gI (sI M 108 0 0) 108 1 = nI 0 := by rw [gI_sI]; simp [h]
  have h3 : (nI 0 = (0 : Int32)) = True := by decide
  simp only [bd_eq, h1, h3, if_true]
theorem in_eq {Z : Nat} {M : Mem} {p : Int32} {lo hi : Int64} : f_X12_in Z M p.toInt64 lo hi = some (bI (lo.toInt ≤ p.toInt ∧ p.toInt ≤ hi.toInt), M) := by
  have e : p.toInt64.toInt = p.toInt := Int32.toInt_toInt64 p
  unfold f_X12_in bI
  simp only [Int64.lt_iff_toInt_lt, e]
  by_cases h1 : p.toInt < lo.toInt
  · rw [if_pos h1, if_neg (by omega)]
  · rw [if_neg h1]
    by_cases h2 : hi.toInt < p.toInt
    · rw [if_pos h2, if_neg (by omega)]
    · rw [if_neg h2, if_pos (by omega)]
/-! cases without an exception -/
theorem b_law_2 {Z L : Nat} {xs : Nat → Int32} {M : Mem} {i : Int32} {j : Mem → Option Unit} (hI : Inv M) (hj : ∀ M1, Inv M1 → j M1 = some ()) : f_law_2 Z L xs M i j = some () := by
  unfold f_law_2 f_X11_parseError f_X12_parseError
  have h1 : gI (sI M 108 0 0) 108 10 = gI M 21 2 := by rw [gI_sI, if_neg (by decide)]; exact hI.2.1.1.symm
  simp only [bd_eq, cl_some, h1, if_true]
  exact hj _ (hI.kp kp.thr)
theorem b_law_3 {Z L : Nat} {xs : Nat → Int32} {M : Mem} {i : Int32} {j : Mem → Option Unit} (hI : Inv M) (hj : ∀ M1, Inv M1 → j M1 = some ()) : f_law_3 Z L xs M i j = some () := by
  unfold f_law_3 f_X11_errorPosition f_X12_errorPosition
  have h1 : gI (sI M 108 0 0) 108 11 = gI M 21 3 := by rw [gI_sI, if_neg (by decide)]; exact hI.2.1.2.symm
  simp only [bd_eq, cl_some, h1, if_true]
  exact hj _ (hI.kp kp.thr)
theorem b_law_4 {Z L : Nat} {xs : Nat → Int32} {M : Mem} {i : Int32} {j : Mem → Option Unit} (hI : Inv M) (hj : ∀ M1, Inv M1 → j M1 = some ()) : f_law_4 Z L xs M i j = some () := by
  unfold f_law_4 f_X11_buffered f_X12_buffered
  have h1 : gI (sI M 108 0 0) 108 9 = gI M 1 1 := by rw [gI_sI, if_neg (by decide)]; exact hI.1.1.symm
  simp only [bd_eq, cl_some, h1, if_true]
  exact hj _ (hI.kp kp.thr)
theorem rd112 {β : Type} {M : Mem} {c : Int32} {i : Nat} {k : Int32 → Option β} (hc : c = nI i) (hi : i < 344) : rdI M 112 344 c k = k (gI M 112 i) := by rw [hc]; exact rdI_n hi (by decide)
theorem rd109 {β : Type} {M : Mem} {c : Int32} {i : Nat} {k : Int32 → Option β} (hc : c = nI i) (hi : i < 54) : rdI M 109 54 c k = k (gI M 109 i) := by rw [hc]; exact rdI_n hi (by decide)
theorem b_law_5 {Z L : Nat} {xs : Nat → Int32} {M : Mem} {i : Int32} {j : Mem → Option Unit} (hI : Inv M) (hj : ∀ M1, Inv M1 → j M1 = some ()) : f_law_5 Z L xs M i j = some () := by
  unfold f_law_5 f_X11_states f_X12_states
  rcases hI.2.2.2.2.2 with h | h
  · simp only [bd_eq, cl_some, rd112 (c := 0) (i := 0) (by decide) (by decide), told0 h.1, h.2.1]
    exact (if_pos (by decide)).trans (hj _ (hI.kp kp.thr))
  · simp only [bd_eq, cl_some, rd112 (c := 0) (i := 0) (by decide) (by decide), told1 h.1, h.2.2.1.1, if_true]
    exact hj _ (hI.kp kp.thr)
theorem b_law_6 {Z L : Nat} {xs : Nat → Int32} {M : Mem} {i : Int32} {j : Mem → Option Unit} (hI : Inv M) (hj : ∀ M1, Inv M1 → j M1 = some ()) : f_law_6 Z L xs M i j = some () := by
  unfold f_law_6 f_X11_budgets f_X12_budgets
  rcases hI.2.2.2.2.2 with h | h
  · simp only [bd_eq, cl_some, rd112 (c := 1) (i := 1) (by decide) (by decide), told0 h.1, h.2.2.1]
    exact (if_pos (by decide)).trans (hj _ (hI.kp kp.thr))
  · simp only [bd_eq, cl_some, rd112 (c := 1) (i := 1) (by decide) (by decide), told1 h.1, h.2.2.1.2.1, if_true]
    exact hj _ (hI.kp kp.thr)
theorem b_law_7 {Z L : Nat} {xs : Nat → Int32} {M : Mem} {i : Int32} {j : Mem → Option Unit} (hI : Inv M) (hj : ∀ M1, Inv M1 → j M1 = some ()) : f_law_7 Z L xs M i j = some () := by
  unfold f_law_7 f_X11_horizon f_X12_horizon
  rcases hI.2.2.2.2.2 with h | h
  · simp only [bd_eq, cl_some, rd109 (c := 1) (i := 1) (by decide) (by decide), told0 h.1, h.2.2.2.1]
    exact (if_pos (by decide)).trans (hj _ (hI.kp kp.thr))
  · simp only [bd_eq, cl_some, rd109 (c := 1) (i := 1) (by decide) (by decide), told1 h.1, h.2.2.2.2.1.1.2.1, if_true]
    exact hj _ (hI.kp kp.thr)
theorem b_law_58 {Z L : Nat} {xs : Nat → Int32} {M : Mem} {i : Int32} {j : Mem → Option Unit} (hI : Inv M) (hj : ∀ M1, Inv M1 → j M1 = some ()) : f_law_58 Z L xs M i j = some () := by
  unfold f_law_58 f_X11_undoable f_X12_undoable
  rcases hI.2.2.2.2.2 with h | h
  · simp only [bd_eq, cl_some, told0 h.1, h.2.2.2.2.1]
    exact (if_pos (by decide)).trans (hj _ (hI.kp kp.thr))
  · simp only [bd_eq, cl_some, told1 h.1, h.2.2.2.2.2.1.1, if_true]
    exact hj _ (hI.kp kp.thr)
