theorem nI_sub {a b : Nat} (h : b ≤ a) : nI a - nI b = nI (a - b) := by
  obtain ⟨c, rfl⟩ : ∃ c, a = b + c := ⟨a - b, by omega⟩
  rw [← nI_add, show b + c - b = c by omega, Int32.add_comm, Int32.add_sub_cancel]
theorem power_eq {Z : Nat} {M : Mem} {b k : Nat} (hZ : 20 < Z) (hk : k ≤ 10) (hb : b < 2 ^ 31) : f_X12_power Z M (nI b) (nI k) = some (lN (b ^ k), M) := by
  unfold f_X12_power
  rw [i0]
  refine lpS (σ := Unit) (fun n i _ => f_X12_power_L5 Z M (nI b) (nI k) n (lN (b ^ i)) (nI i)) (fun r => r = some (lN (b ^ k), M)) (fun _ _ => True) 0 k (s := ()) (by omega) (by omega) trivial ?_ ?_
  · intro n i _ _ hi _ K
    rw [f_X12_power_L5]
    simp (disch := omega) only [if_neg (show ¬ k ≤ i by omega), nI_l, lN_mul, bd_eq, jn_eq, cl_some, i0, i1, i2, i3, i4, i5, i6, i8, i10, i14, i36, i86, nI_add, nI_mul, rdI_n, rdL_n, wrI_n, wrL_n, nI_ile, nI_ilt]
    exact K () trivial
  · intro n _ _
    rw [f_X12_power_L5]
    simp only [ge_self, if_true]
theorem unitOf_eq {Z : Nat} {M : Mem} {H : Nat} (hZ : 20 < Z) (h1 : 1 ≤ H) (h5 : H ≤ 5) : f_X11_unitOf Z M (nI H) = some (lN (10 * 1000 ^ (H - 1)), M) := by
  unfold f_X11_unitOf
  rw [i1]
  refine lpS (σ := Unit) (fun n i _ => f_X11_unitOf_L6 Z M (nI H) n (lN (10 * 1000 ^ (i - 1))) (nI i)) (fun r => r = some (lN (10 * 1000 ^ (H - 1)), M)) (fun _ _ => True) 1 H (s := ()) (by omega) (by omega) trivial ?_ ?_
  · intro n i _ h9 hi _ K
    rw [f_X11_unitOf_L6]
    have e : lN (10 * 1000 ^ (i - 1)) * (1000 : Int64) = lN (10 * 1000 ^ (i + 1 - 1)) := by
      rw [show (1000 : Int64) = lN 1000 from rfl, lN_mul, show i + 1 - 1 = (i - 1) + 1 by omega, Nat.pow_succ, Nat.mul_assoc]
    simp (disch := omega) only [if_neg (show ¬ H ≤ i by omega), e, bd_eq, jn_eq, cl_some, i0, i1, i2, i3, i4, i5, i6, i8, i10, i14, i36, i86, nI_add, nI_mul, rdI_n, rdL_n, wrI_n, wrL_n, nI_ile, nI_ilt]
    exact K () trivial
  · intro n _ _
    rw [f_X11_unitOf_L6]
    simp only [ge_self, if_true]
theorem unitNow_eq {Z : Nat} {M : Mem} {H : Nat} (hZ : 20 < Z) (h1 : 1 ≤ H) (h5 : H ≤ 5) (h : gI M 109 1 = nI H) : f_X12_unitNow Z M = some (lN (10 * 1000 ^ (H - 1)), M) := by
  unfold f_X12_unitNow
  rw [rd109 (c := 1) (i := 1) (by decide) (by decide), h, i1, nI_sub h1, show (1000 : Int32) = nI 1000 from rfl, power_eq hZ (by omega) (by decide), cl_some, show (10 : Int64) = lN 10 from rfl, lN_mul]
theorem at_eq {Z : Nat} {M : Mem} {A : Nat → Nat → Int64} (h : MT 18 M A) {x t : Nat} (hx : x < 6) (ht : t < 6) : f_X1_at Z M (nI x) (nI t) = some (A t x, M) := by
  unfold f_X1_at
  simp (disch := omega) only [bd_eq, jn_eq, cl_some, i0, i1, i2, i3, i4, i5, i6, i8, i10, i14, i36, i86, nI_add, nI_mul, rdI_n, rdL_n, wrI_n, wrL_n, nI_ile, nI_ilt]
  rw [h t ht x hx]
theorem sumOf_eq {Z : Nat} {M : Mem} {A : Nat → Nat → Int64} (h : MT 18 M A) (hZ : 20 < Z) {x l : Nat} (hx : x < 6) (hl : l < 6) : f_X1_sumOf Z M (nI x) (nI l) = some (hor (fun t => A t x) (l + 1), M) := by
  unfold f_X1_sumOf
  rw [i0]
  refine lpS (σ := Unit) (fun n i _ => f_X1_sumOf_L5 Z (nI x) (nI l) n (hor (fun t => A t x) i) (nI i) M) (fun r => r = some (hor (fun t => A t x) (l + 1), M)) (fun _ _ => True) 0 (l + 1) (s := ()) (by omega) (by omega) trivial ?_ ?_
  · intro n i _ _ hi _ K
    rw [f_X1_sumOf_L5]
    simp (disch := omega) only [if_neg (show ¬ l < i by omega), at_eq h hx (show i < 6 by omega), bd_eq, jn_eq, cl_some, i0, i1, i2, i3, i4, i5, i6, i8, i10, i14, i36, i86, nI_add, nI_mul, rdI_n, rdL_n, wrI_n, wrL_n, nI_ile, nI_ilt]
    exact K () trivial
  · intro n _ _
    rw [f_X1_sumOf_L5]
    simp (disch := omega) only [if_pos (show l < l + 1 by omega), bd_eq, jn_eq, cl_some, i0, i1, i2, i3, i4, i5, i6, i8, i10, i14, i36, i86, nI_add, nI_mul, rdI_n, rdL_n, wrI_n, wrL_n, nI_ile, nI_ilt]
theorem hor_sum {F : Nat → Int64} {n : Nat} : ∀ k, k ≤ n + 1 → smL k (fun t => F t * lN (1000 ^ (n - t))) = hor F k * lN (1000 ^ (n + 1 - k)) := by
  intro k
  induction k with
  | zero => intro _; show (0 : Int64) = 0 * _; rw [Int64.zero_mul]
  | succ k ih =>
    intro hk
    show smL k _ + F k * lN (1000 ^ (n - k)) = (hor F k * 1000 + F k) * lN (1000 ^ (n + 1 - (k + 1)))
    rw [ih (by omega), show n + 1 - (k + 1) = n - k by omega, show n + 1 - k = (n - k) + 1 by omega, Nat.pow_succ, ← lN_mul, show lN 1000 = (1000 : Int64) from rfl]
    generalize lN (1000 ^ (n - k)) = q
    grind
theorem together_eq {Z : Nat} {M : Mem} {A : Nat → Nat → Int64} (h : MT 116 M A) (hZ : 20 < Z) {x H : Nat} (hx : x < 6) (hH : H ≤ 5) (hg : gI M 109 1 = nI H) : f_X12_together Z M (nI x) = some (hor (fun t => A t x) (H + 1), M) := by
  have e : hor (fun t => A t x) (H + 1) = smL (H + 1) (fun t => A t x * lN (1000 ^ (H - t))) := by
    rw [hor_sum (F := fun t => A t x) (n := H) (H + 1) (Nat.le_refl _), Nat.sub_self]
    exact (Int64.mul_one _).symm
  rw [e]
  unfold f_X12_together
  rw [i0]
  refine lpS (σ := Unit) (fun n i _ => f_X12_together_L5 Z (nI x) n (smL i (fun t => A t x * lN (1000 ^ (H - t)))) (nI i) M) (fun r => r = some (smL (H + 1) (fun t => A t x * lN (1000 ^ (H - t))), M)) (fun _ _ => True) 0 (H + 1) (s := ()) (by omega) (by omega) trivial ?_ ?_
  · intro n i _ _ hi _ K
    rw [f_X12_together_L5]
    simp (disch := omega) only [if_neg (show ¬ H < i by omega), hg, mc6, h i (show i < 6 by omega) x hx, nI_sub (show i ≤ H by omega), show (1000 : Int32) = nI 1000 from rfl, power_eq (Z := Z) (M := M) (b := 1000) (k := H - i) hZ (by omega) (by decide), bd_eq, jn_eq, cl_some, i0, i1, i2, i3, i4, i5, i6, i8, i10, i14, i36, i86, nI_add, nI_mul, rdI_n, rdL_n, wrI_n, wrL_n, nI_ile, nI_ilt]
    exact K () trivial
  · intro n _ _
    rw [f_X12_together_L5]
    simp (disch := omega) only [if_pos (show H < H + 1 by omega), hg, bd_eq, jn_eq, cl_some, i0, i1, i2, i3, i4, i5, i6, i8, i10, i14, i36, i86, nI_add, nI_mul, rdI_n, rdL_n, wrI_n, wrL_n, nI_ile, nI_ilt]
/-- the flows under the settings now -/
def fTab (P S : Nat → Int32) (t x : Nat) : Int64 := if t ≤ pn S 1 ∧ x < cN P then lN (fNow P (sW S) (pn S 0) t x) else 0
theorem Has.VS {M : Mem} (h : Has M) : VS (gI M 112) (gI M 109) := h.2.2.2.1
theorem Has.RS {M : Mem} (h : Has M) : RS (gI M 112) M 10 (gI M 109) := h.2.2.2.2.1
theorem Has.st {M : Mem} (h : Has M) : gI M 10 3 = nI (pn (gI M 109) 0) ∧ pn (gI M 109) 0 < cN (gI M 112) := ⟨h.RS.1.1.trans h.VS.1.1, h.VS.1.2⟩
theorem Has.hz {M : Mem} (h : Has M) : gI M 10 4 = nI (pn (gI M 109) 1) ∧ gI M 109 1 = nI (pn (gI M 109) 1) ∧ 1 ≤ pn (gI M 109) 1 ∧ pn (gI M 109) 1 ≤ 5 := ⟨h.RS.1.2.1.trans h.VS.2.1.1, h.VS.2.1.1, h.VS.2.1.2⟩
theorem followRules_ok {Z : Nat} {M : Mem} (hZ : 60 < Z) (h : Has M) : OK (f_X11_followRules Z M) (fun _ M' => fr [16, 17, 18] M M' ∧ gI M' 16 1 = nI (pn (gI M 109) 0) ∧ gI M' 16 2 = nI (pn (gI M 109) 1) ∧ MT 17 M' (fun x y => if x < cN (gI M 112) ∧ y < cN (gI M 112) then lN (Tp (cM (gI M 112)) (cP (gI M 112)) (sW (gI M 109)) x y) else 0) ∧ MT 18 M' (fTab (gI M 112) (gI M 109))) := by
  unfold f_X11_followRules
  rw [bd_eq, bd_eq, h.st.1, h.hz.1]
  obtain ⟨_, M1, e1, q1, q2, q3, q4, q5⟩ := follow_ok (Z := Z) h.c h.z hZ (w := 11) (W := sW (gI M 109)) (by decide) (h.RS.w h.VS h.N.2) (fun r => h.VS.2.2.2.2.1 r) h.st.2 h.hz.2.2.2 (fun x hx => by rw [Tp_sum h.2.1 h.VS x hx]; exact Nat.le_refl _)
  rw [e1, cl_some]
  exact OK.ret ⟨q1, q2, q3, q4, q5⟩
theorem Fl_congr {N st : Nat} {T T' : Nat → Nat → Nat} (h : ∀ x y, x < N → T x y = T' x y) : ∀ t x, Fl N T st t x = Fl N T' st t x := by
  intro t
  induction t with
  | zero => intro x; rfl
  | succ t ih =>
    intro y
    exact sm_congr (fun x hx => by rw [ih x, h x y hx])
theorem nI_ne_neg {x : Nat} (h : x < 2 ^ 31) : nI x ≠ -1 := by
  intro e
  have := congrArg Int32.toInt e
  rw [nI_toInt h] at this
  have e2 : (-1 : Int32).toInt = -1 := by decide
  omega
theorem laysN_ok {Z : Nat} {M : Mem} (hZ : 60 < Z) (h : Has M) : OK (f_X12_lays Z M (-1)) (fun _ M' => fr [116] M M' ∧ MT 116 M' (fTab (gI M 112) (gI M 109))) := by
  have hN := h.N
  obtain ⟨_, M1, e1, q1, q2⟩ := lays_ok (Z := Z) h.r h.z hZ (h.VS.toSR rfl) h.st.2 h.hz.2.2.2 (fun x y hx hy => Tp_le h.2.1 h.VS hx hy) (-1)
  refine ⟨_, M1, e1, q1, q2.congr rfl (fun t _ x _ => ?_)⟩
  unfold fTab fNow
  have e := Fl_congr (N := cN (gI M 112)) (st := pn (gI M 109) 0) (T := fun x y => if nI x = -1 then 0 else Tp (cM (gI M 112)) (cP (gI M 112)) (sW (gI M 109)) x y) (T' := Tp (cM (gI M 112)) (cP (gI M 112)) (sW (gI M 109))) (fun x y hx => if_neg (nI_ne_neg (by omega))) t x
  rw [e]
theorem T0.Has {M : Mem} (h : Has M) : Has (T0 M) := h.kp T0.kp
theorem ok_unit {Z : Nat} (hZ : 4000 < Z) {M : Mem} (hI : Inv M) (h : Has M) : OKc (f_X11_unit Z M) (fun M => f_X12_unit Z M) (fun v => v) (fun v => v) := by
  have hz := h.hz
  have e9 : gI (T0 (sL M 124 0 (lN (10 * 1000 ^ (pn (gI M 109) 1 - 1))))) 109 1 = nI (pn (gI M 109) 1) := by rw [T0_I (by decide)]; exact hz.2.1
  refine ⟨lN (10 * 1000 ^ (pn (gI M 109) 1 - 1)), lN (10 * 1000 ^ (pn (gI M 109) 1 - 1)), M, T0 (sL M 124 0 (lN (10 * 1000 ^ (pn (gI M 109) 1 - 1)))), ?_, ?_, hI.kp (out_kp.trans T0.kp), T0_0, ?_⟩
  · unfold f_X11_unit
    rw [needChain1 h.c.1 h.N, clT_ok, bd_eq, hz.1, unitOf_eq (by omega) hz.2.2.1 hz.2.2.2, cl_some]
  · show f_X12_unit Z (sL M 124 0 (lN (10 * 1000 ^ (pn (gI M 109) 1 - 1)))) = _
    unfold f_X12_unit
    rw [noChain1 (by exact h.1), cl_some, if_pos rfl]
    rw [show sI (sL M 124 0 (lN (10 * 1000 ^ (pn (gI M 109) 1 - 1)))) 108 0 0 = T0 (sL M 124 0 (lN (10 * 1000 ^ (pn (gI M 109) 1 - 1)))) from rfl, unitNow_eq (by omega) hz.2.2.1 hz.2.2.2 e9, cl_some]
  · rw [T0_L, gL_sL, if_pos ⟨rfl, rfl⟩]
theorem ok_visits {Z : Nat} (hZ : 4000 < Z) {M : Mem} (hI : Inv M) (h : Has M) {x : Nat} (hx : x < cN (gI M 112)) : OKc (f_X11_visits Z M (nI x)) (fun M => f_X12_visits Z M (nI x)) (fun v => v) (fun v => v) := by
  have hN := h.N
  have hz := h.hz
  obtain ⟨_, M1, e1, q1, q2, q3, q4, q5⟩ := followRules_ok (Z := Z) (by omega) h
  have k1 : kp M M1 := kp.of q1 (by decide)
  have h1 := h.kp k1
  generalize hv : hor (fun t => fTab (gI M 112) (gI M 109) t x) (pn (gI M 109) 1 + 1) = v
  have h2 := T0.Has (h1.out (v := v))
  obtain ⟨_, M3, e3, r1, r2⟩ := laysN_ok (Z := Z) (by omega) h2
  have a112 : gI (T0 (sL M1 124 0 v)) 112 = gI M 112 := by rw [T0_I (by decide), gI_sL', q1.I (by decide)]
  have a109 : gI (T0 (sL M1 124 0 v)) 109 = gI M 109 := by rw [T0_I (by decide), gI_sL', q1.I (by decide)]
  rw [a112, a109] at r2
  refine ⟨v, v, M1, M3, ?_, ?_, ((hI.kp k1).kp (out_kp.trans T0.kp)).kp (kp.of r1 (by decide)), ?_, ?_⟩
  · unfold f_X11_visits
    rw [needState1 h.c.1 hN, if_pos (inR_of hx (by omega)), clT_ok, e1, cl_some]
    unfold f_X1_visitsOf
    rw [bd_eq, q3, sumOf_eq q5 (by omega) (by omega) (by omega), hv]
    rfl
  · show f_X12_visits Z (sL M1 124 0 v) (nI x) = _
    unfold f_X12_visits
    rw [noState1 (by exact h1.1) (by exact h1.r.1) h1.N.2, if_pos (inR_of (by rw [q1.I (by decide)]; exact hx) (by have := h1.N; omega)), cl_some, if_pos rfl, e3, cl_some, together_eq r2 (by omega) (x := x) (H := pn (gI M 109) 1) (by omega) hz.2.2.2 (by rw [r1.I (by decide), a109]; exact hz.2.1), hv, cl_some]
  · rw [r1.I (by decide)]
    exact T0_0
  · rw [r1.L (by decide), T0_L, gL_sL, if_pos ⟨rfl, rfl⟩]
theorem b_law_20 {Z L a : Nat} {xs : Nat → Int32} {M : Mem} {j : Mem → Option Unit} (hZ : 4000 < Z) (hI : Inv M) (ha : a + 6 ≤ L) (hL : L ≤ 3072) (hj : ∀ M1, Inv M1 → j M1 = some ()) : f_law_20 Z L xs M (nI a) j = some () := by
  unfold f_law_20
  simp (disch := omega) only [i1, nI_add, rdX_n]
  generalize xs (a + 1) = p1
  rcases hI.2.2.2.2.2 with h | h
  · have e1 : f_L_visits Z M p1 = some (1, M) := by
      unfold f_L_visits f_X11_visits
      rw [needState0 h.2.1]
      rfl
    have e2 : f_X12_visits Z M p1 = some (0, Tc M 1) := by
      unfold f_X12_visits
      rw [noState0 h.1]
      rfl
    rw [e1, cl_some, e2, cl_some]
    exact tail_l Tc_0 (fun z => absurd z (by decide)) (hj _ (hI.kp Tc.kp))
  · by_cases hp : inR p1 (cN (gI M 112))
    · obtain ⟨x, hx, rfl⟩ := inR_nI hp
      obtain ⟨v, w, M1, M2, q1, q2, q3, q4, q5⟩ := ok_visits (Z := Z) hZ hI h hx
      dsimp only at q2 q5
      have e1 : f_L_visits Z M (nI x) = some (0, sL M1 124 0 v) := by
        unfold f_L_visits
        rw [q1, clT_ok, i0, wrL_n (by decide) (by decide)]
      rw [e1, cl_some, q2, cl_some]
      exact tail_l q4 (fun _ => q5) (hj _ q3)
    · have e1 : f_L_visits Z M p1 = some (2, M) := by
        unfold f_L_visits f_X11_visits
        rw [needState1 h.c.1 h.N, if_neg hp]
        rfl
      have e2 : f_X12_visits Z M p1 = some (0, Tc M 2) := by
        unfold f_X12_visits
        rw [noState1 h.1 h.r.1 h.N.2, if_neg hp]
        rfl
      rw [e1, cl_some, e2, cl_some]
      exact tail_l Tc_0 (fun z => absurd z (by decide)) (hj _ (hI.kp Tc.kp))
theorem b_law_22 {Z L a : Nat} {xs : Nat → Int32} {M : Mem} {j : Mem → Option Unit} (hZ : 4000 < Z) (hI : Inv M) (ha : a + 6 ≤ L) (hL : L ≤ 3072) (hj : ∀ M1, Inv M1 → j M1 = some ()) : f_law_22 Z L xs M (nI a) j = some () := by
  unfold f_law_22
  rcases hI.2.2.2.2.2 with h | h
  · have e1 : f_L_unit Z M = some (1, M) := by
      unfold f_L_unit f_X11_unit
      rw [needChain0 h.2.1]
      rfl
    have e2 : f_X12_unit Z M = some (0, Tc M 1) := by
      unfold f_X12_unit
      rw [noChain0 h.1]
      rfl
    rw [e1, cl_some, e2, cl_some]
    exact tail_l Tc_0 (fun z => absurd z (by decide)) (hj _ (hI.kp Tc.kp))
  · obtain ⟨v, w, M1, M2, q1, q2, q3, q4, q5⟩ := ok_unit (Z := Z) hZ hI h
    dsimp only at q2 q5
    have e1 : f_L_unit Z M = some (0, sL M1 124 0 v) := by
      unfold f_L_unit
      rw [q1, clT_ok, i0, wrL_n (by decide) (by decide)]
    rw [e1, cl_some, q2, cl_some]
    exact tail_l q4 (fun _ => q5) (hj _ q3)
