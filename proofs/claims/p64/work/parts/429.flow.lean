theorem nI_sub {a b : Nat} (h : b ≤ a) : nI a - nI b = nI (a - b) := by
  obtain ⟨c, rfl⟩ : ∃ c, a = b + c := ⟨a - b, by omega⟩
  rw [← nI_add, show b + c - b = c by omega, Int32.add_comm, Int32.add_sub_cancel]
theorem unitOf_eq {Z : Nat} {M : Mem} {H : Nat} (hZ : 20 < Z) (h1 : 1 ≤ H) (h5 : H ≤ 5) : f_X11_unitOf Z M (nI H) = some (lN (10 * 1000 ^ (H - 1)), M) := by
  unfold f_X11_unitOf
  rw [i1]
  refine lpS (σ := Unit) (fun n i _ => f_X11_unitOf_L6 Z M (nI H) n (lN (10 * 1000 ^ (i - 1))) (nI i)) (fun r => r = some (lN (10 * 1000 ^ (H - 1)), M)) (fun _ _ => True) 1 H (s := ()) (by omega) (by omega) trivial ?_ ?_
  · intro n i _ h9 hi _ K
    rw [f_X11_unitOf_L6]
    have e : lN (10 * 1000 ^ (i - 1)) * (1000 : Int64) = lN (10 * 1000 ^ (i + 1 - 1)) := by
      rw [show (1000 : Int64) = lN 1000 from rfl, lN_mul, show i + 1 - 1 = (i - 1) + 1 by omega, Nat.pow_succ, Nat.mul_assoc]
    simp (disch := omega) only [if_neg (show ¬ H ≤ i by omega), e, bd_eq, jn_eq, cl_some, i0, i1, i2, i3, i4, i5, i6, i8, i10, i14, i36, i86, nI_add, nI_mul, rdI_n, rdL_n, wrI_n, wrL_n, nI_ile, nI_ilt]
    exact K () trivial
  · intro n _ _
    rw [f_X11_unitOf_L6]
    simp only [ge_self, if_true]
theorem at_eq {Z : Nat} {M : Mem} {A : Nat → Nat → Int64} (h : MT 18 M A) {x t : Nat} (hx : x < 6) (ht : t < 6) : f_X1_at Z M (nI x) (nI t) = some (A t x, M) := by
  unfold f_X1_at
  simp (disch := omega) only [bd_eq, jn_eq, cl_some, i0, i1, i2, i3, i4, i5, i6, i8, i10, i14, i36, i86, nI_add, nI_mul, rdI_n, rdL_n, wrI_n, wrL_n, nI_ile, nI_ilt]
  rw [h t ht x hx]
theorem sumOf_eq {Z : Nat} {M : Mem} {A : Nat → Nat → Int64} (h : MT 18 M A) (hZ : 20 < Z) {x l : Nat} (hx : x < 6) (hl : l < 6) : f_X1_sumOf Z M (nI x) (nI l) = some (hor (fun t => A t x) (l + 1), M) := by
  unfold f_X1_sumOf
  rw [i0]
  refine lpS (σ := Unit) (fun n i _ => f_X1_sumOf_L5 Z (nI x) (nI l) n (hor (fun t => A t x) i) (nI i) M) (fun r => r = some (hor (fun t => A t x) (l + 1), M)) (fun _ _ => True) 0 (l + 1) (s := ()) (by omega) (by omega) trivial ?_ ?_
  · intro n i _ _ hi _ K
    rw [f_X1_sumOf_L5]
    simp (disch := omega) only [if_neg (show ¬ l < i by omega), at_eq h hx (show i < 6 by omega), bd_eq, jn_eq, cl_some, i0, i1, i2, i3, i4, i5, i6, i8, i10, i14, i36, i86, nI_add, nI_mul, rdI_n, rdL_n, wrI_n, wrL_n, nI_ile, nI_ilt]
    exact K () trivial
  · intro n _ _
    rw [f_X1_sumOf_L5]
    simp (disch := omega) only [if_pos (show l < l + 1 by omega), bd_eq, jn_eq, cl_some, i0, i1, i2, i3, i4, i5, i6, i8, i10, i14, i36, i86, nI_add, nI_mul, rdI_n, rdL_n, wrI_n, wrL_n, nI_ile, nI_ilt]
theorem hor_sum {F : Nat → Int64} {n : Nat} : ∀ k, k ≤ n + 1 → smL k (fun t => F t * lN (1000 ^ (n - t))) = hor F k * lN (1000 ^ (n + 1 - k)) := by
  intro k
  induction k with
  | zero => intro _; show (0 : Int64) = 0 * _; rw [Int64.zero_mul]
  | succ k ih =>
    intro hk
    show smL k _ + F k * lN (1000 ^ (n - k)) = (hor F k * 1000 + F k) * lN (1000 ^ (n + 1 - (k + 1)))
    rw [ih (by omega), show n + 1 - (k + 1) = n - k by omega, show n + 1 - k = (n - k) + 1 by omega, Nat.pow_succ, ← lN_mul, show lN 1000 = (1000 : Int64) from rfl]
    generalize lN (1000 ^ (n - k)) = q
    grind
/-- the flows under the settings now -/
def fTab (P S : Nat → Int32) (t x : Nat) : Int64 := if t ≤ pn S 1 ∧ x < cN P then lN (fNow P (sW9 S) (pn S 0) t x) else 0
theorem Has.VS {M : Mem} (h : Has M) : VS (gI M 112) (gI M 109) := h.2.2.2.1
theorem Has.RS {M : Mem} (h : Has M) : RS (gI M 112) M 10 (gI M 109) := h.2.2.2.2.1
theorem Has.st {M : Mem} (h : Has M) : gI M 10 3 = nI (pn (gI M 109) 0) ∧ pn (gI M 109) 0 < cN (gI M 112) := ⟨h.RS.1.1.trans h.VS.1.1, h.VS.1.2⟩
theorem Has.hz {M : Mem} (h : Has M) : gI M 10 4 = nI (pn (gI M 109) 1) ∧ gI M 109 1 = nI (pn (gI M 109) 1) ∧ 1 ≤ pn (gI M 109) 1 ∧ pn (gI M 109) 1 ≤ 5 := ⟨h.RS.1.2.1.trans h.VS.2.1.1, h.VS.2.1.1, h.VS.2.1.2⟩
theorem followRules_ok {Z : Nat} {M : Mem} (hZ : 60 < Z) (h : Has M) : OK (f_X11_followRules Z M) (fun _ M' => fr [16, 17, 18] M M' ∧ gI M' 16 1 = nI (pn (gI M 109) 0) ∧ gI M' 16 2 = nI (pn (gI M 109) 1) ∧ MT 17 M' (fun x y => if x < cN (gI M 112) ∧ y < cN (gI M 112) then lN (Tp (cM (gI M 112)) (cP (gI M 112)) (sW9 (gI M 109)) x y) else 0) ∧ MT 18 M' (fTab (gI M 112) (gI M 109))) := by
  unfold f_X11_followRules
  rw [bd_eq, bd_eq, h.st.1, h.hz.1]
  obtain ⟨_, M1, e1, q1, q2, q3, q4, q5⟩ := follow_ok (Z := Z) h.c h.z hZ (w := 11) (W := sW9 (gI M 109)) (by decide) (h.RS.w h.VS h.N.2) (fun r => h.VS.2.2.2.2.1 r) h.st.2 h.hz.2.2.2 (fun x hx => by rw [Tp_sum h.2.1 h.VS x hx]; exact Nat.le_refl _)
  rw [e1, cl_some]
  exact OK.ret ⟨q1, q2, q3, q4, q5⟩
theorem Fl_congr {N st : Nat} {T T' : Nat → Nat → Nat} (h : ∀ x y, x < N → T x y = T' x y) : ∀ t x, Fl N T st t x = Fl N T' st t x := by
  intro t
  induction t with
  | zero => intro x; rfl
  | succ t ih =>
    intro y
    exact sm_congr (fun x hx => by rw [ih x, h x y hx])
theorem nI_ne_neg {x : Nat} (h : x < 2 ^ 31) : nI x ≠ -1 := by
  intro e
  have := congrArg Int32.toInt e
  rw [nI_toInt h] at this
  have e2 : (-1 : Int32).toInt = -1 := by decide
  omega
theorem T0.Has {M : Mem} (h : Has M) : Has (T0 M) := h.kp T0.kp
