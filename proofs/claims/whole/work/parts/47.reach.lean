theorem ltopI {n : Nat} (h : n < 2 ^ 31) : (nI n - (1 : Int32)).toInt = (n : Int) - 1 := by
  rw [← Int32.toInt_toInt64]
  exact ltopn h
/-- class and reference after the rules are followed -/
theorem fl_both {Z : Nat} {M : Mem} (hZ : 60 < Z) (hI : Inv M) (h : Has M) : ∃ M1, f_X11_followRules Z M = some ((), M1) ∧ fr [16, 17, 18] M M1 ∧ gI M1 16 1 = nI (pn (gI M 109) 0) ∧ gI M1 16 2 = nI (pn (gI M 109) 1) ∧ MT 17 M1 (fun x y => if x < cN (gI M 112) ∧ y < cN (gI M 112) then lN (Tp (cM (gI M 112)) (cP (gI M 112)) (sW (gI M 109)) x y) else 0) ∧ MT 18 M1 (fTab (gI M 112) (gI M 109)) ∧ Inv M1 ∧ Has M1 ∧ gI M1 112 = gI M 112 ∧ gI M1 109 = gI M 109 := by
  obtain ⟨_, M1, e1, q1, q2, q3, q4, q5⟩ := followRules_ok hZ h
  have k1 : kp M M1 := kp.of q1 (by decide)
  exact ⟨M1, e1, q1, q2, q3, q4, q5, hI.kp k1, h.kp k1, q1.I (by decide), q1.I (by decide)⟩
theorem lay_ref {Z : Nat} {M : Mem} (hZ : 60 < Z) (hI : Inv M) (h : Has M) : ∃ M3, f_X12_lays Z (T0 M) (-1) = some ((), M3) ∧ fr [116] (T0 M) M3 ∧ MT 116 M3 (fTab (gI M 112) (gI M 109)) ∧ Inv M3 ∧ gI M3 108 0 = 0 ∧ gL M3 124 = gL M 124 ∧ gI M3 112 = gI M 112 ∧ gI M3 109 = gI M 109 := by
  have h2 := T0.Has h
  obtain ⟨_, M3, e3, r1, r2⟩ := laysN_ok hZ h2
  rw [T0_I (by decide), T0_I (by decide)] at r2
  refine ⟨M3, e3, r1, r2, (hI.kp T0.kp).kp (kp.of r1 (by decide)), ?_, ?_, ?_, ?_⟩
  · rw [r1.I (by decide)]
    exact T0_0
  · rw [r1.L (by decide), T0_L]
  · rw [r1.I (by decide), T0_I (by decide)]
  · rw [r1.I (by decide), T0_I (by decide)]
theorem brk_if {c : Nat → Bool} {n : Nat} {X : Prop} [Decidable X] (h : X ↔ c n = false) : (if X then brk c n else brk c n ||| (nI 1 <<< (nI n &&& 31))) = brk c (n + 1) := by
  show _ = if c n then _ else _
  by_cases g : c n = false
  · rw [if_pos (h.mpr g), g]
    rfl
  · rw [if_neg (fun z => g (h.mp z))]
    simp only [Bool.not_eq_false] at g
    rw [g]
    rfl
/-- the states that a run can be in at a time -/
def rSet (P S : Nat → Int32) (t : Nat) (x : Nat) : Bool := decide (¬ fTab P S t x ≤ 0)
theorem rSet_f {P S : Nat → Int32} {t x : Nat} : fTab P S t x ≤ 0 ↔ rSet P S t x = false := by
  unfold rSet
  rw [decide_eq_false_iff_not, Classical.not_not]
theorem reachAt_ok {Z : Nat} {M : Mem} (hZ : 60 < Z) (hI : Inv M) (h : Has M) {t : Nat} (ht : t ≤ pn (gI M 109) 1) : ∃ M3, f_X12_reachAt Z (T0 M) (nI t) = some (brk (rSet (gI M 112) (gI M 109) t) (cN (gI M 112)), M3) ∧ fr [116] (T0 M) M3 ∧ MT 116 M3 (fTab (gI M 112) (gI M 109)) ∧ Inv M3 ∧ gI M3 108 0 = 0 ∧ gL M3 124 = gL M 124 ∧ gI M3 112 = gI M 112 ∧ gI M3 109 = gI M 109 := by
  have hN := h.N
  have h5 := h.hz.2.2.2
  obtain ⟨M3, e3, r1, r2, r3, r4, r5, r6, r7⟩ := lay_ref hZ hI h
  refine ⟨M3, ?_, r1, r2, r3, r4, r5, r6, r7⟩
  unfold f_X12_reachAt
  rw [e3, cl_some, i0, show nI 0 = brk (rSet (gI M 112) (gI M 109) t) 0 from rfl]
  have j112 : gI M3 112 0 = nI (cN (gI M 112)) := by rw [r6]; exact h.2.1.n
  refine lpS (σ := Unit) (fun n i _ => f_X12_reachAt_L9 Z (nI t) M3 n (brk (rSet (gI M 112) (gI M 109) t) i) (nI i)) (fun r => r = some (brk (rSet (gI M 112) (gI M 109) t) (cN (gI M 112)), M3)) (fun _ _ => True) 0 (cN (gI M 112)) (s := ()) (by omega) (by omega) trivial ?_ ?_
  · intro n x _ _ hx _ K
    have K1 := K () trivial
    rw [← brk_if rSet_f] at K1
    rw [f_X12_reachAt_L9]
    simp (disch := omega) only [j112, if_neg (show ¬ cN (gI M 112) ≤ x by omega), nI_ile, i0, i1, i6, rdI_n, rdL_n, mc6, nI_mul, nI_add, r2 t (show t < 6 by omega) x (show x < 6 by omega)]
    by_cases c : fTab (gI M 112) (gI M 109) t x ≤ 0
    · rw [if_pos c] at K1 ⊢
      rw [← i0, Int32.or_zero]
      exact K1
    · rw [if_neg c] at K1 ⊢
      exact K1
  · intro n _ _
    rw [f_X12_reachAt_L9]
    simp (disch := omega) only [j112, ge_self, if_true, i0, rdI_n]
theorem ok_reach {Z : Nat} (hZ : 4000 < Z) {M : Mem} (hI : Inv M) (h : Has M) {t : Nat} (ht : t < pn (gI M 109) 1 + 1) : OKc (f_X11_reach Z M (nI t)) (fun M => f_X12_reach Z M (nI t)) (·.toInt64) (·.toInt64) := by
  have hN := h.N
  have h5 := h.hz.2.2.2
  obtain ⟨M1, e1, q1, q2, q3, q4, q5, q6, q7, q8, q9⟩ := fl_both (Z := Z) (by omega) hI h
  generalize hv : brk (rSet (gI M 112) (gI M 109) t) (cN (gI M 112)) = v
  have g1 : Inv (sL M1 124 0 v.toInt64) := q6.kp out_kp
  have g2 : Has (sL M1 124 0 v.toInt64) := q7.out
  obtain ⟨M3, e3, r1, r2, r3, r4, r5, r6, r7⟩ := reachAt_ok (Z := Z) (t := t) (by omega) g1 g2 (by rw [Has.s109, q9]; omega)
  rw [Has.s112, Has.s109, q8, q9, hv] at e3
  refine ⟨v, v, M1, M3, ?_, ?_, r3, r4, ?_⟩
  · unfold f_X11_reach
    rw [h.nT, if_pos (inR_of ht (by omega)), clT_ok, e1, cl_some, i0, show nI 0 = brk (rSet (gI M 112) (gI M 109) t) 0 from rfl]
    have j3 : gI M1 3 0 = nI (cN (gI M 112)) := by rw [q1.I (by decide)]; exact h.c.1
    refine lpS (σ := Unit) (fun n i _ => f_X11_reach_L13 Z (nI t) n (brk (rSet (gI M 112) (gI M 109) t) i) (nI i) M1) (fun r => r = some (.ok v, M1)) (fun _ _ => True) 0 (cN (gI M 112)) (s := ()) (by omega) (by omega) trivial ?_ ?_
    · intro n x _ _ hx _ K
      have K1 := K () trivial
      rw [← brk_if rSet_f] at K1
      rw [f_X11_reach_L13, bd_eq, j3]
      simp (disch := omega) only [if_neg (show ¬ cN (gI M 112) ≤ x by omega), nI_ile, at_eq q5 (show x < 6 by omega) (show t < 6 by omega), cl_some, i1, nI_add]
      by_cases c : fTab (gI M 112) (gI M 109) t x ≤ 0
      · rw [if_pos c] at K1 ⊢
        exact K1
      · rw [if_neg c] at K1 ⊢
        exact K1
    · intro n _ _
      rw [f_X11_reach_L13, bd_eq, j3]
      simp only [ge_self, if_true, hv]
  · show f_X12_reach Z (sL M1 124 0 v.toInt64) (nI t) = _
    unfold f_X12_reach
    rw [g2.rC, cl_some, if_pos rfl, g2.iT, cl_some, rfz T0_0 (by decide), if_pos (by rw [Has.s109, q9]; exact inR_of ht (by omega)), if_pos rfl, e3, cl_some]
  · rw [r5, gL_sL, if_pos ⟨rfl, rfl⟩]
theorem ck_reach {Z : Nat} {M : Mem} (hZ : 4000 < Z) (hI : Inv M) (p1 : Int32) : CK (f_L_reach Z M p1) (fun M => f_X12_reach Z M p1) (·.toInt64) := by
  unfold f_L_reach
  rcases hI.2.2.2.2.2 with h | h
  · exact CK.er hI (e := 0) (c := 1) (w := 0) (by unfold f_X11_reach; rw [needTime0 h.2.1]; rfl) rfl (by decide) (by unfold f_X12_reach; rw [noChain0 h.1]; rfl)
  · by_cases hp : inR p1 (pn (gI M 109) 1 + 1)
    · obtain ⟨t, ht, rfl⟩ := inR_nI hp
      exact CK.mk (ok_reach hZ hI h ht)
    · exact CK.er hI (e := 2) (c := 2) (w := 0) (by unfold f_X11_reach; rw [h.nT, if_neg hp]; rfl) rfl (by decide) (by unfold f_X12_reach; rw [h.rC, cl_some, if_pos rfl, h.iT, cl_some, rfz T0_0 (by decide), if_neg hp]; rfl)
theorem b_law_16 {Z L a : Nat} {xs : Nat → Int32} {M : Mem} {j : Mem → Option Unit} (hZ : 4000 < Z) (hI : Inv M) (ha : a + 6 ≤ L) (hL : L ≤ 3072) (hj : ∀ M1, Inv M1 → j M1 = some ()) : f_law_16 Z L xs M (nI a) j = some () := by
  unfold f_law_16
  simp (disch := omega) only [i1, nI_add, rdX_n]
  generalize xs (a + 1) = p1
  exact (ck_reach hZ hI p1).tail hj
theorem ok_flow {Z : Nat} (hZ : 4000 < Z) {M : Mem} (hI : Inv M) (h : Has M) {x t : Nat} (hx : x < cN (gI M 112)) (ht : t < pn (gI M 109) 1 + 1) : OKc (f_X11_flow Z M (nI x) (nI t)) (fun M => f_X12_flow Z M (nI x) (nI t)) (fun v => v) (fun v => v) := by
  have hN := h.N
  have h5 := h.hz.2.2.2
  obtain ⟨M1, e1, q1, q2, q3, q4, q5, q6, q7, q8, q9⟩ := fl_both (Z := Z) (by omega) hI h
  generalize hv : fTab (gI M 112) (gI M 109) t x = v
  have g1 : Inv (sL M1 124 0 v) := q6.kp out_kp
  have g2 : Has (sL M1 124 0 v) := q7.out
  obtain ⟨M3, e3, r1, r2, r3, r4, r5, r6, r7⟩ := lay_ref (Z := Z) (by omega) g1 g2
  rw [Has.s112, Has.s109, q8, q9] at r2
  refine ⟨v, v, M1, M3, ?_, ?_, r3, r4, ?_⟩
  · unfold f_X11_flow
    rw [h.nS, if_pos (inR_of hx (by omega)), clT_ok, h.nT, if_pos (inR_of ht (by omega)), clT_ok, e1, cl_some, at_eq q5 (by omega) (by omega), cl_some, hv]
  · show f_X12_flow Z (sL M1 124 0 v) (nI x) (nI t) = _
    unfold f_X12_flow
    rw [g2.rS, if_pos (by rw [Has.s112, q8]; exact inR_of hx (by omega)), cl_some, if_pos rfl, g2.iT, cl_some, rfz T0_0 (by decide), if_pos (by rw [Has.s109, q9]; exact inR_of ht (by omega)), if_pos rfl, e3, cl_some, i6, nI_mul, nI_add, mc6, rdL_n (by omega) (by decide), r2 t (by omega) x (by omega), hv]
  · rw [r5, gL_sL, if_pos ⟨rfl, rfl⟩]
theorem ck_flow {Z : Nat} {M : Mem} (hZ : 4000 < Z) (hI : Inv M) (p1 p2 : Int32) : CK (f_L_flow Z M p1 p2) (fun M => f_X12_flow Z M p1 p2) (fun v => v) := by
  unfold f_L_flow
  rcases hI.2.2.2.2.2 with h | h
  · exact CK.er hI (e := 0) (c := 1) (w := 0) (by unfold f_X11_flow; rw [needState0 h.2.1]; rfl) rfl (by decide) (by unfold f_X12_flow; rw [noState0 h.1]; rfl)
  · by_cases hp : inR p1 (cN (gI M 112))
    · by_cases hp2 : inR p2 (pn (gI M 109) 1 + 1)
      · obtain ⟨x, hx, rfl⟩ := inR_nI hp
        obtain ⟨t, ht, rfl⟩ := inR_nI hp2
        exact CK.mk (cv := fun v => v) (ok_flow hZ hI h hx ht)
      · exact CK.er hI (e := 2) (c := 3) (w := 0) (by unfold f_X11_flow; rw [h.nS, if_pos hp, clT_ok, h.nT, if_neg hp2]; rfl) rfl (by decide) (by unfold f_X12_flow; rw [h.rS, if_pos hp, cl_some, if_pos rfl, h.iT, cl_some, rfz T0_0 (by decide), if_neg hp2]; rfl)
    · exact CK.er hI (e := 1) (c := 2) (w := 0) (by unfold f_X11_flow; rw [h.nS, if_neg hp]; rfl) rfl (by decide) (by unfold f_X12_flow; rw [h.rS, if_neg hp]; rfl)
theorem b_law_18 {Z L a : Nat} {xs : Nat → Int32} {M : Mem} {j : Mem → Option Unit} (hZ : 4000 < Z) (hI : Inv M) (ha : a + 6 ≤ L) (hL : L ≤ 3072) (hj : ∀ M1, Inv M1 → j M1 = some ()) : f_law_18 Z L xs M (nI a) j = some () := by
  unfold f_law_18
  simp (disch := omega) only [i1, i2, nI_add, rdX_n]
  generalize xs (a + 1) = p1
  generalize xs (a + 2) = p2
  exact (ck_flow hZ hI p1 p2).tail hj
theorem ok_use {Z : Nat} (hZ : 4000 < Z) {M : Mem} (hI : Inv M) (h : Has M) {x y t : Nat} (hx : x < cN (gI M 112)) (hy : y < cM (gI M 112) x) (ht : t < pn (gI M 109) 1) : OKc (f_X11_use Z M (nI x) (nI y) (nI t)) (fun M => f_X12_use Z M (nI x) (nI y) (nI t)) (fun v => v) (fun v => v) := by
  have hN := h.N
  have hm := h.z.2.1 x
  have hz := h.hz
  obtain ⟨M1, e1, q1, q2, q3, q4, q5, q6, q7, q8, q9⟩ := fl_both (Z := Z) (by omega) hI h
  generalize hv : fTab (gI M 112) (gI M 109) t x * (nI (sW (gI M 109) (x * 3 + y))).toInt64 = v
  have g1 : Inv (sL M1 124 0 v) := q6.kp out_kp
  have g2 : Has (sL M1 124 0 v) := q7.out
  obtain ⟨M3, e3, r1, r2, r3, r4, r5, r6, r7⟩ := lay_ref (Z := Z) (by omega) g1 g2
  rw [Has.s112, Has.s109, q8, q9] at r2
  have hS3 := h.VS.toSR (M := M3) (by rw [r7, Has.s109, q9])
  refine ⟨v, v, M1, M3, ?_, ?_, r3, r4, ?_⟩
  · unfold f_X11_use
    rw [h.nA hx, if_pos (inR_of hy (by omega)), clT_ok, bd_eq, hz.1, needRangeR (n := pn (gI M 109) 1) rfl (ltopI (by omega)), if_pos (inR_of ht (by omega)), clT_ok, e1, cl_some, at_eq q5 (by omega) (by omega), cl_some, rowOf_eq, cl_some, rdI_n (by omega) (by decide), q1.I (by decide), show (11 : Nat) = 10 + 1 from rfl, h.RS.w h.VS hN.2 _ (by omega), hv]
  · show f_X12_use Z (sL M1 124 0 v) (nI x) (nI y) (nI t) = _
    have j9 : gI (T0 (sL M1 124 0 v)) 109 1 = nI (pn (gI M 109) 1) := by rw [T0_I (by decide), Has.s109, q9]; exact hz.2.1
    unfold f_X12_use
    rw [g2.rA (by rw [Has.s112, q8]; exact hx), if_pos (by rw [Has.s112, q8]; exact inR_of hy (by omega)), cl_some, if_pos rfl, rd109 (c := 1) (i := 1) (by decide) (by decide), j9, in_n (by omega), cl_some, rfz T0_0 (by decide), if_pos (inR_of ht (by omega)), if_pos rfl, e3, cl_some, i6, nI_mul, nI_add, mc6, rdL_n (by omega) (by decide), r2 t (by omega) x (by omega), weightOf_eq hS3 (by omega), cl_some, hv]
  · rw [r5, gL_sL, if_pos ⟨rfl, rfl⟩]
theorem ck_use {Z : Nat} {M : Mem} (hZ : 4000 < Z) (hI : Inv M) (p1 p2 p3 : Int32) : CK (f_L_use Z M p1 p2 p3) (fun M => f_X12_use Z M p1 p2 p3) (fun v => v) := by
  unfold f_L_use
  rcases hI.2.2.2.2.2 with h | h
  · exact CK.er hI (e := 0) (c := 1) (w := 0) (by unfold f_X11_use; rw [needAction0 h.2.1]; rfl) rfl (by decide) (by unfold f_X12_use; rw [noAction0 h.1]; rfl)
  · have hz := h.hz
    have j9 : gI (T0 M) 109 1 = nI (pn (gI M 109) 1) := by rw [T0_I (by decide)]; exact hz.2.1
    by_cases hp : inR p1 (cN (gI M 112))
    · obtain ⟨x, hx, rfl⟩ := inR_nI hp
      by_cases hp2 : inR p2 (cM (gI M 112) x)
      · by_cases hp3 : inR p3 (pn (gI M 109) 1)
        · obtain ⟨y, hy, rfl⟩ := inR_nI hp2
          obtain ⟨t, ht, rfl⟩ := inR_nI hp3
          exact CK.mk (cv := fun v => v) (ok_use hZ hI h hx hy ht)
        · exact CK.er hI (e := 2) (c := 3) (w := 0) (by unfold f_X11_use; rw [h.nA hx, if_pos hp2, clT_ok, bd_eq, hz.1, needRangeR (n := pn (gI M 109) 1) rfl (ltopI (by omega)), if_neg hp3]; rfl) rfl (by decide) (by unfold f_X12_use; rw [h.rA hx, if_pos hp2, cl_some, if_pos rfl, rd109 (c := 1) (i := 1) (by decide) (by decide), j9, in_n (by omega), cl_some, rfz T0_0 (by decide), if_neg hp3]; rfl)
      · exact CK.er hI (e := 1) (c := 2) (w := 0) (by unfold f_X11_use; rw [h.nA hx, if_neg hp2]; rfl) rfl (by decide) (by unfold f_X12_use; rw [h.rA hx, if_neg hp2]; rfl)
    · exact CK.er hI (e := 1) (c := 2) (w := 0) (by unfold f_X11_use; rw [h.nAX hp]; rfl) rfl (by decide) (by unfold f_X12_use; rw [h.rAX hp]; rfl)
theorem b_law_19 {Z L a : Nat} {xs : Nat → Int32} {M : Mem} {j : Mem → Option Unit} (hZ : 4000 < Z) (hI : Inv M) (ha : a + 6 ≤ L) (hL : L ≤ 3072) (hj : ∀ M1, Inv M1 → j M1 = some ()) : f_law_19 Z L xs M (nI a) j = some () := by
  unfold f_law_19
  simp (disch := omega) only [i1, i2, i3, nI_add, rdX_n]
  generalize xs (a + 1) = p1
  generalize xs (a + 2) = p2
  generalize xs (a + 3) = p3
  exact (ck_use hZ hI p1 p2 p3).tail hj
