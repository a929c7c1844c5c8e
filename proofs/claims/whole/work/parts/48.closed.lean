theorem and_or0 {a b m : Int32} : ((a ||| b) &&& m = 0) = (a &&& m = 0 ∧ b &&& m = 0) := by
  have e : ∀ x : Int32, (x = 0) = (x.toBitVec = 0#32) := fun x => propext ⟨fun h => by rw [h]; rfl, fun h => Int32.toBitVec_inj.mp h⟩
  rw [e, e, e, Int32.toBitVec_and, Int32.toBitVec_or, Int32.toBitVec_and, Int32.toBitVec_and, BitVec.and_or_distrib_right, BitVec.or_eq_zero_iff]
theorem bit6 : ∀ s, s < 64 → ∀ x, x < 6 → (((nI s >>> (nI x &&& 31)) &&& (1 : Int32)) = (1 : Int32)) = (s / 2 ^ x % 2 = 1) := by decide +kernel
theorem bit6z : ∀ s, s < 64 → ∀ x, x < 6 → (((nI s >>> (nI x &&& 31)) &&& (1 : Int32)) = 0) = (s / 2 ^ x % 2 = 0) := by decide +kernel
theorem one6 : ∀ s, s < 64 → ∀ x, x < 6 → (((nI 1 <<< (nI x &&& 31)) &&& (nI s ^^^ (-1 : Int32))) = 0) = (s / 2 ^ x % 2 = 1) := by decide +kernel
theorem top6 : ∀ n, n ≤ 6 → (((1 : Int32) <<< (nI n &&& 31)) - (1 : Int32)).toInt = ((2 ^ n - 1 : Nat) : Int) := by decide +kernel
theorem pow6 : ∀ n, n ≤ 6 → 2 ^ n - 1 < 64 := by decide
theorem bit6n {s x : Nat} (hs : s < 64) (hx : x < 6) : (((nI s >>> (nI x &&& 31)) &&& nI 1) = nI 1) = (s / 2 ^ x % 2 = 1) := bit6 s hs x hx
theorem bit6y {s x : Nat} (hs : s < 64) (hx : x < 6) : (((nI s >>> (nI x &&& 31)) &&& nI 1) = nI 0) = (s / 2 ^ x % 2 = 0) := bit6z s hs x hx
/-- a set of states misses none of these -/
theorem brk_and {c : Nat → Bool} {s n : Nat} (hs : s < 64) (hn : n ≤ 6) : (brk c n &&& (nI s ^^^ (-1 : Int32)) = 0) = (∀ y, y < n → c y = true → s / 2 ^ y % 2 = 1) := by
  induction n with
  | zero =>
    have : (nI 0 &&& (nI s ^^^ (-1 : Int32))) = 0 := Int32.zero_and
    exact propext ⟨fun _ y hy => absurd hy (by omega), fun _ => this⟩
  | succ n ih =>
    have ih := ih (by omega)
    show ((if c n then brk c n ||| (nI 1 <<< (nI n &&& 31)) else brk c n) &&& _ = 0) = _
    by_cases g : c n = true
    · rw [if_pos g, and_or0, ih, one6 s hs n (by omega)]
      refine propext ⟨fun h y hy e => ?_, fun h => ⟨fun y hy e => h y (by omega) e, h n (by omega) g⟩⟩
      by_cases d : y = n
      · rw [d]; exact h.2
      · exact h.1 y (by omega) e
    · rw [if_neg g, ih]
      refine propext ⟨fun h y hy e => ?_, fun h y hy e => h y (by omega) e⟩
      by_cases d : y = n
      · rw [d] at e
        exact absurd e g
      · exact h y (by omega) e
theorem brk_andn {c : Nat → Bool} {s n : Nat} (hs : s < 64) (hn : n ≤ 6) : (brk c n &&& (nI s ^^^ (-nI 1 : Int32)) = 0) = (∀ y, y < n → c y = true → s / 2 ^ y % 2 = 1) := brk_and hs hn
/-- where a step leads -/
def lead (P S : Nat → Int32) (x y : Nat) : Bool := decide (0 < Tp (cM P) (cP P) (sW S) x y)
theorem nextStates_eq {Z : Nat} {M : Mem} {N : Nat} (h3 : gI M 3 0 = nI N) (hN : N ≤ 6) (hZ : 10 < Z) {T : Nat → Nat → Nat} (hTb : ∀ x y, x < N → y < N → T x y ≤ 1000) (hT : MT 17 M (fun x y => if x < N ∧ y < N then lN (T x y) else 0)) {x : Nat} (hx : x < N) : f_X1_nextStates Z M (nI x) = some (brk (fun y => decide (0 < T x y)) N, M) := by
  unfold f_X1_nextStates
  rw [i0]
  refine lpS (σ := Unit) (fun n i _ => f_X1_nextStates_L4 Z (nI x) n (brk (fun y => decide (0 < T x y)) i) (nI i) M) (fun r => r = some (brk (fun y => decide (0 < T x y)) N, M)) (fun _ _ => True) 0 N (s := ()) (by omega) (by omega) trivial ?_ ?_
  · intro n y _ _ hy _ K
    have K1 := K () trivial
    have hb := hTb x y hx hy
    rw [← brk_if (X := T x y ≤ 0) (by rw [decide_eq_false_iff_not]; omega)] at K1
    rw [f_X1_nextStates_L4, bd_eq, h3]
    simp (disch := omega) only [if_neg (show ¬ N ≤ y by omega), nI_ile, partsTo_eq hT (show x < 6 by omega) (show y < 6 by omega), cl_some, if_pos (And.intro hx hy), l0, lN_ile, i1, nI_add]
    by_cases c : T x y ≤ 0
    · rw [if_pos c] at K1 ⊢
      exact K1
    · rw [if_neg c] at K1 ⊢
      exact K1
  · intro n _ _
    rw [f_X1_nextStates_L4, bd_eq, h3]
    simp only [ge_self, if_true]
/-- a state breaks a set: it lies in it, and leads out of it -/
def outOf (P S : Nat → Int32) (s x : Nat) : Bool := decide (s / 2 ^ x % 2 = 1) && decide (∃ y, y < cN P ∧ s / 2 ^ y % 2 = 0 ∧ 0 < Tp (cM P) (cP P) (sW S) x y)
/-- from i on, of d states: is there none that breaks the set? -/
def clo (f : Nat → Bool) : Nat → Nat → Int32
  | 0, _ => 1
  | d + 1, i => if f i then 0 else clo f d (i + 1)
theorem clo_step {f : Nat → Bool} {N i : Nat} (h : i < N) : clo f (N - i) i = if f i then 0 else clo f (N - (i + 1)) (i + 1) := by
  rw [show N - i = (N - (i + 1)) + 1 by omega]
  rfl
theorem isClosedX_eq {Z : Nat} {M : Mem} {P S : Nat → Int32} (hV : VP P) (hS : VS P S) (hP : gI M 112 = P) (hSM : gI M 109 = S) (hZ : 10 < Z) {s x : Nat} (hs : s < 64) (hx : x < cN P) (k : Mem → Option (Int32 × Mem)) : f_X12_isClosed_L56 Z (nI s) (nI x) k Z (nI 0) M = if outOf P S s x then some (0, M) else k M := by
  have hN := hV.2.1.2.1
  have hR := hV.chR hP
  refine lpS (σ := Unit) (fun n i _ => f_X12_isClosed_L56 Z (nI s) (nI x) k n (nI i) M) (fun r => r = if outOf P S s x then some (0, M) else k M) (fun i _ => ¬ ∃ y, y < i ∧ s / 2 ^ x % 2 = 1 ∧ s / 2 ^ y % 2 = 0 ∧ 0 < Tp (cM P) (cP P) (sW S) x y) 0 (cN P) (s := ()) (by omega) (by omega) (fun ⟨y, hy, _⟩ => absurd hy (by omega)) ?_ ?_
  · intro n y _ _ hy hI K
    have hb := Tp_le hV hS hx hy
    rw [f_X12_isClosed_L56]
    simp (disch := omega) only [hR.1, if_neg (show ¬ cN P ≤ y by omega), nI_ile, jn_eq, bit6n hs (show x < 6 by omega), bit6y hs (show y < 6 by omega), stepOf_eq hR hV.sz (show 10 < Z by omega) (hS.toSR hSM) (show x < 6 by omega) (show y < 6 by omega), cl_some, i0, i1, nI_add, rdI_n]
    by_cases c1 : s / 2 ^ x % 2 = 1
    · rw [if_pos c1]
      by_cases c2 : s / 2 ^ y % 2 = 0
      · rw [if_pos c2]
        by_cases c3 : Tp (cM P) (cP P) (sW S) x y ≤ 0
        · rw [if_pos c3]
          refine K () (fun ⟨z, hz, g1, g2, g3⟩ => ?_)
          by_cases e : z = y
          · subst e
            omega
          · exact hI ⟨z, by omega, g1, g2, g3⟩
        · rw [if_neg c3, if_pos]
          unfold outOf
          simp only [Bool.and_eq_true, decide_eq_true_eq]
          exact ⟨c1, y, hy, c2, by omega⟩
      · rw [if_neg c2]
        refine K () (fun ⟨z, hz, g1, g2, g3⟩ => ?_)
        by_cases e : z = y
        · subst e
          omega
        · exact hI ⟨z, by omega, g1, g2, g3⟩
    · rw [if_neg c1]
      exact K () (fun ⟨z, hz, g1, g2, g3⟩ => c1 g1)
  · intro n _ hI
    rw [f_X12_isClosed_L56]
    simp (disch := omega) only [hR.1, ge_self, if_true, i0, rdI_n]
    rw [if_neg]
    unfold outOf
    simp only [Bool.and_eq_true, decide_eq_true_eq]
    exact fun ⟨c1, y, hy, c2, c3⟩ => hI ⟨y, hy, c1, c2, c3⟩
theorem ok_isClosed {Z : Nat} (hZ : 4000 < Z) {M : Mem} (hI : Inv M) (h : Has M) {s : Nat} (hs1 : 1 ≤ s) (hs : s ≤ 2 ^ cN (gI M 112) - 1) : OKc (f_X11_isClosed Z M (nI s)) (fun M => f_X12_isClosed Z M (nI s)) bL bL := by
  have hN := h.N
  have h64 := pow6 (cN (gI M 112)) hN.2
  obtain ⟨M1, e1, q1, q2, q3, q4, q5, q6, q7, q8, q9⟩ := fl_both (Z := Z) (by omega) hI h
  generalize hv : clo (outOf (gI M 112) (gI M 109) s) (cN (gI M 112)) 0 = v
  have g2 : Has (sL M1 124 0 (bL v)) := q7.out
  refine ⟨v, v, M1, T0 (sL M1 124 0 (bL v)), ?_, ?_, q6.kp (out_kp.trans T0.kp), T0_0, ?_⟩
  · unfold f_X11_isClosed
    have j3 : gI M1 3 0 = nI (cN (gI M 112)) := by rw [q1.I (by decide)]; exact h.c.1
    rw [h.nC, clT_ok, bd_eq, h.c.1, needRangeN (a := 1) rfl (top6 _ hN.2), if_pos (inN_of hs1 hs (by omega)), clT_ok, e1, cl_some, i0]
    refine lpS (σ := Unit) (fun n i _ => f_X11_isClosed_L26 Z (nI s) n (nI i) M1) (fun r => r = some (.ok v, M1)) (fun i _ => clo (outOf (gI M 112) (gI M 109) s) (cN (gI M 112) - i) i = v) 0 (cN (gI M 112)) (s := ()) (by omega) (by omega) hv ?_ ?_
    · intro n x _ _ hx hI9 K
      rw [clo_step hx] at hI9
      rw [f_X11_isClosed_L26, bd_eq, j3]
      simp (disch := omega) only [if_neg (show ¬ cN (gI M 112) ≤ x by omega), nI_ile, jn_eq, bit6n (show s < 64 by omega) (show x < 6 by omega), nextStates_eq j3 hN.2 (show 10 < Z by omega) (fun x y hx hy => Tp_le h.2.1 h.VS hx hy) q4 hx, cl_some, brk_andn (show s < 64 by omega) hN.2, i1, nI_add]
      have hout : outOf (gI M 112) (gI M 109) s x = true ↔ s / 2 ^ x % 2 = 1 ∧ ¬ (∀ y, y < cN (gI M 112) → decide (0 < Tp (cM (gI M 112)) (cP (gI M 112)) (sW (gI M 109)) x y) = true → s / 2 ^ y % 2 = 1) := by
        unfold outOf
        simp only [Bool.and_eq_true, decide_eq_true_eq]
        constructor
        · intro ⟨c1, y, hy, c2, c3⟩
          exact ⟨c1, fun g => absurd (g y hy c3) (by omega)⟩
        · intro ⟨c1, g⟩
          refine ⟨c1, ?_⟩
          apply Classical.byContradiction
          intro g2
          refine g (fun y hy c3 => ?_)
          have : s / 2 ^ y % 2 < 2 := Nat.mod_lt _ (by decide)
          apply Classical.byContradiction
          intro g3
          exact g2 ⟨y, hy, by omega, c3⟩
      by_cases c1 : s / 2 ^ x % 2 = 1
      · rw [if_pos c1]
        by_cases c2 : ∀ y, y < cN (gI M 112) → decide (0 < Tp (cM (gI M 112)) (cP (gI M 112)) (sW (gI M 109)) x y) = true → s / 2 ^ y % 2 = 1
        · rw [if_pos c2]
          rw [if_neg (fun z => (hout.mp z).2 c2)] at hI9
          exact K () hI9
        · rw [if_neg c2]
          rw [if_pos (hout.mpr ⟨c1, c2⟩)] at hI9
          rw [← hI9]
      · rw [if_neg c1]
        rw [if_neg (fun z => c1 (hout.mp z).1)] at hI9
        exact K () hI9
    · intro n _ hI9
      rw [Nat.sub_self] at hI9
      rw [f_X11_isClosed_L26, bd_eq, j3]
      simp only [ge_self, if_true]
      rw [← hI9]
      rfl
  · show f_X12_isClosed Z (sL M1 124 0 (bL v)) (nI s) = _
    have j112 : gI (T0 (sL M1 124 0 (bL v))) 112 = gI M 112 := by rw [T0_I (by decide), Has.s112, q8]
    have j109 : gI (T0 (sL M1 124 0 (bL v))) 109 = gI M 109 := by rw [T0_I (by decide), Has.s109, q9]
    have jN : gI (T0 (sL M1 124 0 (bL v))) 112 0 = nI (cN (gI M 112)) := by rw [j112]; exact h.2.1.n
    unfold f_X12_isClosed
    rw [g2.rC, cl_some, if_pos rfl, rd112 (c := 0) (i := 0) (by decide) (by decide), jN, in_N (a := 1) rfl (by rw [Int32.toInt_toInt64]; exact top6 _ hN.2), cl_some, rfz T0_0 (by decide), if_pos (inN_of hs1 hs (by omega)), if_pos rfl, i0]
    refine lpS (σ := Unit) (fun n i _ => f_X12_isClosed_L44 Z (nI s) n (nI i) (T0 (sL M1 124 0 (bL v)))) (fun r => r = some (v, T0 (sL M1 124 0 (bL v)))) (fun i _ => clo (outOf (gI M 112) (gI M 109) s) (cN (gI M 112) - i) i = v) 0 (cN (gI M 112)) (s := ()) (by omega) (by omega) hv ?_ ?_
    · intro n x _ _ hx hI9 K
      rw [clo_step hx] at hI9
      rw [f_X12_isClosed_L44]
      simp (disch := omega) only [jN, if_neg (show ¬ cN (gI M 112) ≤ x by omega), nI_ile, i0, i1, nI_add, rdI_n, isClosedX_eq h.2.1 h.VS j112 j109 (show 10 < Z by omega) (show s < 64 by omega) hx]
      by_cases c : outOf (gI M 112) (gI M 109) s x = true
      · rw [if_pos c] at hI9 ⊢
        rw [← hI9]
        rfl
      · rw [if_neg c] at hI9 ⊢
        exact K () hI9
    · intro n _ hI9
      rw [Nat.sub_self] at hI9
      rw [f_X12_isClosed_L44]
      simp (disch := omega) only [jN, ge_self, if_true, i0, rdI_n]
      rw [← hI9]
      rfl
  · rw [T0_L, gL_sL, if_pos ⟨rfl, rfl⟩]
theorem ck_isClosed {Z : Nat} {M : Mem} (hZ : 4000 < Z) (hI : Inv M) (p1 : Int32) : CK (f_L_isClosed Z M p1) (fun M => f_X12_isClosed Z M p1) bL := by
  unfold f_L_isClosed
  rcases hI.2.2.2.2.2 with h | h
  · exact CK.er hI (e := 0) (c := 1) (w := 0) (by unfold f_X11_isClosed; rw [needChain0 h.2.1]; rfl) rfl (by decide) (by unfold f_X12_isClosed; rw [noChain0 h.1]; rfl)
  · have jN : gI (T0 M) 112 0 = nI (cN (gI M 112)) := by rw [T0_I (by decide)]; exact h.2.1.n
    have hN := h.N.2
    by_cases hp : inN p1 1 (2 ^ cN (gI M 112) - 1)
    · obtain ⟨s, h1, h2, rfl⟩ := inN_nI hp
      exact CK.mk_b (ok_isClosed hZ hI h h1 h2)
    · exact CK.er hI (e := 2) (c := 2) (w := 0) (by unfold f_X11_isClosed; rw [h.nC, clT_ok, bd_eq, h.c.1, needRangeN (a := 1) rfl (top6 _ hN), if_neg hp]; rfl) rfl (by decide) (by unfold f_X12_isClosed; rw [h.rC, cl_some, if_pos rfl, rd112 (c := 0) (i := 0) (by decide) (by decide), jN, in_N (a := 1) rfl (by rw [Int32.toInt_toInt64]; exact top6 _ hN), cl_some, rfz T0_0 (by decide), if_neg hp]; rfl)
theorem b_law_17 {Z L a : Nat} {xs : Nat → Int32} {M : Mem} {j : Mem → Option Unit} (hZ : 4000 < Z) (hI : Inv M) (ha : a + 6 ≤ L) (hL : L ≤ 3072) (hj : ∀ M1, Inv M1 → j M1 = some ()) : f_law_17 Z L xs M (nI a) j = some () := by
  unfold f_law_17
  simp (disch := omega) only [i1, nI_add, rdX_n]
  generalize xs (a + 1) = p1
  exact (ck_isClosed hZ hI p1).tail_b hj
