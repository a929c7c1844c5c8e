theorem nI_sub {a b : Nat} (h : b ≤ a) : nI a - nI b = nI (a - b) := by
  obtain ⟨c, rfl⟩ : ∃ c, a = b + c := ⟨a - b, by omega⟩
  rw [← nI_add, show b + c - b = c by omega, Int32.add_comm, Int32.add_sub_cancel]
theorem at_eq {Z : Nat} {M : Mem} {A : Nat → Nat → Int64} (h : MT 18 M A) {x t : Nat} (hx : x < 6) (ht : t < 6) : f_X1_at Z M (nI x) (nI t) = some (A t x, M) := by
  unfold f_X1_at
  simp (disch := omega) only [bd_eq, jn_eq, cl_some, i0, i1, i2, i3, i4, i5, i6, i8, i10, i14, i36, i86, nI_add, nI_mul, rdI_n, rdL_n, wrI_n, wrL_n, nI_ile, nI_ilt]
  rw [h t ht x hx]
theorem hor_sum {F : Nat → Int64} {n : Nat} : ∀ k, k ≤ n + 1 → smL k (fun t => F t * lN (1000 ^ (n - t))) = hor F k * lN (1000 ^ (n + 1 - k)) := by
  intro k
  induction k with
  | zero => intro _; show (0 : Int64) = 0 * _; rw [Int64.zero_mul]
  | succ k ih =>
    intro hk
    show smL k _ + F k * lN (1000 ^ (n - k)) = (hor F k * 1000 + F k) * lN (1000 ^ (n + 1 - (k + 1)))
    rw [ih (by omega), show n + 1 - (k + 1) = n - k by omega, show n + 1 - k = (n - k) + 1 by omega, Nat.pow_succ, ← lN_mul, show lN 1000 = (1000 : Int64) from rfl]
    generalize lN (1000 ^ (n - k)) = q
    grind
/-- the flows under the settings now -/
def fTab (P S : Nat → Int32) (t x : Nat) : Int64 := if t ≤ pn S 1 ∧ x < cN P then lN (fNow P (sW9 S) (pn S 0) t x) else 0
theorem Has.VS {M : Mem} (h : Has M) : VS (gI M 112) (gI M 109) := h.2.2.2.1
theorem Has.RS {M : Mem} (h : Has M) : RS (gI M 112) M 10 (gI M 109) := h.2.2.2.2.1
theorem Has.st {M : Mem} (h : Has M) : gI M 10 3 = nI (pn (gI M 109) 0) ∧ pn (gI M 109) 0 < cN (gI M 112) := ⟨h.RS.1.1.trans h.VS.1.1, h.VS.1.2⟩
theorem Has.hz {M : Mem} (h : Has M) : gI M 10 4 = nI (pn (gI M 109) 1) ∧ gI M 109 1 = nI (pn (gI M 109) 1) ∧ 1 ≤ pn (gI M 109) 1 ∧ pn (gI M 109) 1 ≤ 5 := ⟨h.RS.1.2.1.trans h.VS.2.1.1, h.VS.2.1.1, h.VS.2.1.2⟩
theorem Fl_congr {N st : Nat} {T T' : Nat → Nat → Nat} (h : ∀ x y, x < N → T x y = T' x y) : ∀ t x, Fl N T st t x = Fl N T' st t x := by
  intro t
  induction t with
  | zero => intro x; rfl
  | succ t ih =>
    intro y
    exact sm_congr (fun x hx => by rw [ih x, h x y hx])
theorem nI_ne_neg {x : Nat} (h : x < 2 ^ 31) : nI x ≠ -1 := by
  intro e
  have := congrArg Int32.toInt e
  rw [nI_toInt h] at this
  have e2 : (-1 : Int32).toInt = -1 := by decide
  omega
