/-! the law's chain beside the class's -/
def LwP (P : Nat → Int32) (M : Mem) : Prop := gI M 109 1 = nI (cN P) ∧ gI M 109 2 = nI (cB P) ∧ (∀ x, x < cN P → gI M 111 x = nI (cM P x)) ∧ ∀ x, x < cN P → ∀ a, a < cM P x → gI M (113 + x) a = P (14 + (x * 3 + a)) ∧ (∀ b, b < 3 → gI M (128 + 4 * x + a) b = nI (cA P (x * 3 + a) b)) ∧ (∀ y, y < 6 → gI M (153 + 4 * x + a) y = nI (cP P (x * 3 + a) y)) ∧ ∀ k, k < cT P (x * 3 + a) → gI M (178 + 4 * x + a) k = nI (cO P (x * 3 + a) k)
def LwS (P S : Nat → Int32) (wr : Nat → Nat) (M : Mem) : Prop := (gI M 109 5 = S 0 ∧ gI M 109 3 = S 1 ∧ gI M 109 4 = S 2 ∧ gI M 109 14 = S 3) ∧ (∀ x, x < cN P → ∀ a, a < 3 → gI M (wr x) a = nI (sW9 S (x * 3 + a))) ∧ (∀ x, x < cN P → ∀ a, a < cM P x → gI M (202 + x) a = S (22 + (x * 3 + a))) ∧ (∀ b, b < cB P → gI M 110 b = S (40 + b)) ∧ ∀ n, n ≤ 5 → S 3 = nI n → (∀ t, t ≤ n → gI M 208 t = S (43 + t)) ∧ ∀ t, t < n → gI M 209 t = S (49 + t)
/-- where the rows are -/
def LwR (wr : Nat → Nat) (b : Nat) (M : Mem) : Prop := RW M ∧ RWw M wr ∧ ∀ x, x < 6 → (wr x = 120 + x ∨ (214 ≤ wr x ∧ wr x < b ∧ b ≤ 300))
theorem LwP.fr {P : Nat → Int32} {M M' : Mem} (h : LwP P M) (hN : cN P ≤ 6) (hM : ∀ x, cM P x ≤ 3) (e1 : gI M' 109 1 = gI M 109 1) (e2 : gI M' 109 2 = gI M 109 2) (he : ∀ o, 111 ≤ o → o < 201 → ¬ (119 ≤ o ∧ o < 126) → gI M' o = gI M o) : LwP P M' := by
  obtain ⟨h1, h2, h3, h4⟩ := h
  refine ⟨e1.trans h1, e2.trans h2, fun x hx => by rw [he 111 (by omega) (by omega) (by omega)]; exact h3 x hx, fun x hx a ha => ?_⟩
  have := hM x
  rw [he (113 + x) (by omega) (by omega) (by omega), he (128 + 4 * x + a) (by omega) (by omega) (by omega), he (153 + 4 * x + a) (by omega) (by omega) (by omega), he (178 + 4 * x + a) (by omega) (by omega) (by omega)]
  exact h4 x hx a ha
theorem HasC.N {P S : Nat → Int32} {M : Mem} (h : HasC P S M) : 1 ≤ cN P ∧ cN P ≤ 6 := ⟨h.1.2.1.1, h.1.2.1.2.1⟩
theorem HasC.c {P S : Nat → Int32} {M : Mem} (h : HasC P S M) : ChC M (cN P) (cM P) (cP P) := RP.chC h.1 h.2.1
theorem HasC.z {P S : Nat → Int32} {M : Mem} (h : HasC P S M) : Sz (cN P) (cM P) (cP P) := h.1.sz
theorem HasC.b {P S : Nat → Int32} {M : Mem} (h : HasC P S M) : gI M 3 1 = nI (cB P) ∧ cB P ≤ 3 := ⟨h.2.1.2.1.trans h.1.b, h.1.2.1.2.2⟩
theorem HasC.s {P S : Nat → Int32} {M : Mem} (h : HasC P S M) : VS P S := h.2.2.1
theorem HasC.rs {P S : Nat → Int32} {M : Mem} (h : HasC P S M) : RS P M 10 S := h.2.2.2.1
theorem HasC.st {P S : Nat → Int32} {M : Mem} (h : HasC P S M) : gI M 10 3 = nI (pn S 0) ∧ pn S 0 < cN P := ⟨h.rs.1.1.trans h.s.1.1, h.s.1.2⟩
theorem HasC.hz {P S : Nat → Int32} {M : Mem} (h : HasC P S M) : gI M 10 4 = nI (pn S 1) ∧ 1 ≤ pn S 1 ∧ pn S 1 ≤ 5 := ⟨h.rs.1.2.1.trans h.s.2.1.1, h.s.2.1.2⟩
theorem HasC.nC {P S : Nat → Int32} {M : Mem} (h : HasC P S M) {Z : Nat} : f_X11_needChain Z M = some (.ok (), M) := needChain1 h.c.1 h.N
theorem HasC.nS {P S : Nat → Int32} {M : Mem} (h : HasC P S M) {Z x : Nat} (hx : x < cN P) : f_X11_needState Z M (nI x) = some (.ok (), M) := by
  have := h.N
  rw [needState1 h.c.1 h.N, if_pos (inR_of hx (by omega))]
theorem HasC.nA {P S : Nat → Int32} {M : Mem} (h : HasC P S M) {Z x a : Nat} (hx : x < cN P) (ha : a < cM P x) : f_X11_needAction Z M (nI x) (nI a) = some (.ok (), M) := by
  have := h.z.2.1 x
  rw [needAction1 h.c h.z h.N.1 hx, if_pos (inR_of ha (by omega))]
theorem HasC.nB {P S : Nat → Int32} {M : Mem} (h : HasC P S M) {Z b : Nat} (hb : b < cB P) : f_X11_needBudget Z M (nI b) = some (.ok (), M) := by
  rw [needBudget1 h.c.1 h.N h.b.1 h.b.2, if_pos (inR_of hb (by have := h.b.2; omega))]
theorem HasC.row {P S : Nat → Int32} {M : Mem} (h : HasC P S M) {x a : Nat} (hx : x < cN P) (ha : a < cM P x) : x * 3 + a < 18 ∧ x * 3 + a < 3 * cN P := by
  have := h.N.2
  have := h.z.2.1 x
  omega
theorem g_seed {P S : Nat → Int32} {M : Mem} {Z : Nat} (h : HasC P S M) : f_X11_seed Z M = some (.ok (S 2), M) := by
  unfold f_X11_seed
  rw [h.nC, clT_ok, bd_eq, h.rs.1.2.2.1]
theorem g_start {P S : Nat → Int32} {M : Mem} {Z : Nat} (h : HasC P S M) : f_X11_start Z M = some (.ok (S 0), M) := by
  unfold f_X11_start
  rw [h.nC, clT_ok, bd_eq, h.rs.1.1]
theorem g_limit {P S : Nat → Int32} {M : Mem} {Z b : Nat} (h : HasC P S M) (hb : b < cB P) : f_X11_limit Z M (nI b) = some (.ok (S (40 + b)), M) := by
  have := h.b.2
  unfold f_X11_limit
  rw [h.nB hb, clT_ok, rdI_n (by omega) (by decide), show (13 : Nat) = 10 + 3 from rfl, h.rs.2.2.2.1 b (by omega)]
theorem g_actions {P S : Nat → Int32} {M : Mem} {Z x : Nat} (h : HasC P S M) (hx : x < cN P) : f_X11_actions Z M (nI x) = some (.ok (nI (cM P x)), M) := by
  have := h.N.2
  unfold f_X11_actions
  rw [h.nS hx, clT_ok, rdI_n (by omega) (by decide), h.c.2.1 x (by omega)]
theorem g_gain {P S : Nat → Int32} {M : Mem} {Z x a : Nat} (h : HasC P S M) (hx : x < cN P) (ha : a < cM P x) : f_X11_gain Z M (nI x) (nI a) = some (.ok (P (14 + (x * 3 + a))), M) := by
  have hr := h.row hx ha
  unfold f_X11_gain
  rw [h.nA hx ha, clT_ok, rowOf_eq, cl_some, rdI_n hr.1 (by decide), show (5 : Nat) = 3 + 2 from rfl, h.2.1.2.2.2.1 _ hr.1]
theorem g_weight {P S : Nat → Int32} {M : Mem} {Z x a : Nat} (h : HasC P S M) (hx : x < cN P) (ha : a < cM P x) : f_X11_weight Z M (nI x) (nI a) = some (.ok (nI (sW9 S (x * 3 + a))), M) := by
  have hr := h.row hx ha
  unfold f_X11_weight
  rw [h.nA hx ha, clT_ok, rowOf_eq, cl_some, rdI_n hr.1 (by decide), show (11 : Nat) = 10 + 1 from rfl, RS.w h.s h.rs h.N.2 _ hr.2]
theorem g_permits {P S : Nat → Int32} {M : Mem} {Z x a : Nat} (h : HasC P S M) (hx : x < cN P) (ha : a < cM P x) : f_X11_isPermitted Z M (nI x) (nI a) = some (.ok (S (22 + (x * 3 + a))), M) := by
  have hN := h.N.2
  have hm := h.z.2.1 x
  obtain ⟨q, q1, q2, q3⟩ := h.rs.2.2.1 x hx
  have e := q3 a ha
  have ba := bitAt q (by omega) a (by omega)
  unfold f_X11_isPermitted f_X7_permits
  rw [h.nA hx ha, clT_ok, rdI_n (by omega) (by decide), q2]
  by_cases c : q / 2 ^ a % 2 = 1
  · rw [if_pos (by rw [ba]; exact c), cl_some, if_pos (by decide), e, c]
    rfl
  · rw [if_neg (by rw [ba]; exact c), cl_some, if_pos (by decide), e, show q / 2 ^ a % 2 = 0 by omega]
    rfl
theorem g_walked {P S : Nat → Int32} {M : Mem} {Z n t : Nat} (h : HasC P S M) (hn : S 3 = nI n) (h5 : n ≤ 5) (ht : t ≤ n) : f_X11_walked Z M (nI t) = some (.ok (S (43 + t)), M) := by
  have e6 : gI M 10 6 = nI n := h.rs.1.2.2.2.trans hn
  unfold f_X11_walked
  rw [needWalk1 h.c.1 h.N, e6, if_neg (nI_ne_neg (by omega)), clT_ok, bd_eq, e6, needRangeN (a := 0) (b := n) (by decide) (nI_toInt (by omega)), if_pos (inN_of (Nat.zero_le _) ht (by omega)), clT_ok, rdI_n (by omega) (by decide), show (14 : Nat) = 10 + 4 from rfl, h.rs.2.2.2.2.1 t (by omega)]
theorem g_walkedBy {P S : Nat → Int32} {M : Mem} {Z n t : Nat} (h : HasC P S M) (hn : S 3 = nI n) (h5 : n ≤ 5) (ht : t < n) : f_X11_walkedBy Z M (nI t) = some (.ok (S (49 + t)), M) := by
  have e6 : gI M 10 6 = nI n := h.rs.1.2.2.2.trans hn
  unfold f_X11_walkedBy
  rw [needWalk1 h.c.1 h.N, e6, if_neg (nI_ne_neg (by omega)), clT_ok, bd_eq, e6, needRangeN (a := 0) (b := n - 1) (by decide) (by rw [show (1 : Int32) = nI 1 from rfl, nI_sub (by omega), nI_toInt (by omega)]), if_pos (inN_of (Nat.zero_le _) (by omega) (by omega)), clT_ok, rdI_n (by omega) (by decide), show (15 : Nat) = 10 + 5 from rfl, h.rs.2.2.2.2.2 t (by omega)]
theorem g_nowalk {P S : Nat → Int32} {M : Mem} {Z : Nat} {p : Int32} (h : HasC P S M) (hn : S 3 = -1) : f_X11_walked Z M p = some (.error 0, M) := by
  have e6 : gI M 10 6 = -1 := h.rs.1.2.2.2.trans hn
  unfold f_X11_walked
  rw [needWalk1 h.c.1 h.N, e6, if_pos rfl]
  rfl
