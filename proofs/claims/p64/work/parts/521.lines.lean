/-! the class's parser over the lines of the law's text -/
def ZM (P : Nat → Int32) : Prop := ∀ y, y < 6 → cM P y = 0 ∧ P (320 + y) = nI 0
theorem bud_fwd {Z : Nat} {b : Nat → Nat} {n nb : Nat} {Q : Nat → Int32} {ML M : Mem} (hZ : 4000 < Z) (hV : VQ Q) (hnb : nb ≤ 3) (hB : cB Q = 0) : ∀ i, i ≤ nb → ∀ t rest, BuT ML i t → EL rest → PA b n (t ++ rest) Q M → ∃ M' Q', (∀ k fu c, c + i ≤ 1200 → f_X4_parse_L48 Z k (fu + i) (nI c) M = f_X4_parse_L48 Z k fu (nI (c + i)) M') ∧ fr lP M M' ∧ PA b n rest Q' M' ∧ VQ Q' ∧ cB Q' = i ∧ (∀ j, j < i → Q' (5 + j) = gI ML 110 j) ∧ ∀ j, j ≠ 1 → ¬ (5 ≤ j ∧ j < 8) → Q' j = Q j := by
  intro i
  induction i with
  | zero =>
    intro _ t rest ht _ h
    subst ht
    exact ⟨M, Q, fun _ _ _ _ => rfl, fr.rfl, h, hV, hB, fun j hj => absurd hj (by omega), fun _ _ _ => rfl⟩
  | succ i ih =>
    intro hi t rest ⟨t1, v, h1, h2, h3, h4⟩ hr h
    subst h4
    rw [WL13] at h
    simp only [List.append_assoc, List.cons_append] at h
    obtain ⟨M0, Q0, e0, f0, p0, V0, B0, l0, o0⟩ := ih (by omega) t1 _ h1 (.inr ⟨_, rfl⟩) h
    obtain ⟨hA, hq, hw, hW⟩ := p0
    have hN0 := hW.B
    suffices H : ∃ M', (∀ k fu c, c < 1200 → f_X4_parse_L48 Z k (fu + 1) (nI c) M0 = f_X4_parse_L48 Z k fu (nI (c + 1)) M') ∧ ∃ Q', fr lP M0 M' ∧ PA b n rest Q' M' ∧ VQ Q' ∧ cB Q' = i + 1 ∧ Q' (5 + i) = gI ML 110 i ∧ ∀ j, j ≠ 1 → j ≠ 5 + i → Q' j = Q0 j by
      obtain ⟨M', e, Q', f, p, V, B, l, o⟩ := H
      refine ⟨M', Q', fun k fu c hc => ?_, f0.trans f, p, V, B, fun j hj => ?_, fun j a1 a2 => ?_⟩
      · rw [show fu + (i + 1) = (fu + 1) + i by omega, e0 k _ c (by omega), e k fu (c + i) (by omega), show c + i + 1 = c + (i + 1) by omega]
      · by_cases cj : j = i
        · rw [cj]; exact l
        · rw [o _ (by omega) (by omega)]; exact l0 j (by omega)
      · rw [o j a1 (by omega)]; exact o0 j a1 a2
    refine line_R hZ hA (fun M1 f1 _ a1 => ?_)
    have w4 := isA hZ a1 (by decide) (l := 4) (by decide) (by rfl)
    unfold f_X4_parseLine
    rw [w4, cl_some, if_neg (by decide)]
    have c1 : gI M1 22 1 = nI i := ((hq.fP f1).1.2.1).trans (by rw [hN0.1, B0])
    obtain ⟨M2, k2, f2, -, a2⟩ := advW hZ a1 (by decide) (by rfl)
    obtain ⟨M3, k3, f3, g3, a3⟩ := numA (i := 1) (lo := 0) (hi := 9999) hZ a2 (by omega) hr.hd.2 (by decide) ⟨Nat.zero_le _, by show (v : Int) ≤ 9999; omega⟩
    have q3 := ((hq.fP f1).fP f2).fP f3
    have w3 := ((hw.fP f1).fP f2).fP f3
    have c3 : gI M3 22 1 = nI i := q3.1.2.1.trans (by rw [hN0.1, B0])
    have q4 := q3.updL (j := i) (v := nI v) hW.T (by omega)
    have w4' : CQW (upd Q0 (5 + i) (nI v)) (sI M3 32 i (nI v)) := w3.updL (by omega) (by rw [gI_sI', if_neg (by decide)])
    have W4 : VW (upd Q0 (5 + i) (nI v)) := hW.put (by omega) (by rw [mxL (by omega)]; omega)
    have a4 := a3.s (o := 32) (k := i) (v := nI v) (by decide) (by decide)
    have c4 : gI (sI M3 32 i (nI v)) 22 1 = nI i := by rw [gI_sI', if_neg (by decide)]; exact c3
    have q5 := q4.upd01 (j := 1) (v := nI (i + 1)) W4.T (by decide)
    have w5 : CQW (upd (upd Q0 (5 + i) (nI v)) 1 (nI (i + 1))) (sI (sI M3 32 i (nI v)) 22 1 (nI (i + 1))) := w4'.updL (by decide) (by rw [gI_sI', if_neg (by decide)])
    have W5 : VW (upd (upd Q0 (5 + i) (nI v)) 1 (nI (i + 1))) := W4.put (by decide) (by rw [mxq1]; omega)
    refine ⟨sI (sI M3 32 i (nI v)) 22 1 (nI (i + 1)), ?_, upd (upd Q0 (5 + i) (nI v)) 1 (nI (i + 1)), fr_sI (fr_sI ((f1.p.trans f2.p).trans f3.p) (by decide)) (by decide), ⟨a4.s (by decide) (by decide), q5, w5, W5⟩, ?_, ?_, ?_, fun j a1 a2 => by rw [upd_ne a1, upd_ne a2]⟩
    · unfold f_X4_parseBudget
      rw [bd_eq, c1, if_pos (by rw [show (3 : Int32) = nI 3 from rfl, nI_ilt (by omega) (by decide)]; omega), k2, cl_some, show f_X4_takeNumber Z M2 0 9999 = some (1, M3) from k3, cl_some, if_neg (by decide), bd_eq, c3, bd_eq, g3, wrI_n (by omega) (by decide), bd_eq, c4, bd_eq, show nI i + (1 : Int32) = nI (i + 1) from nI_add i 1, cl_some, if_pos (by decide)]
    · refine V0.of2 W5 (fun i hi => by rw [upd_ne (by omega), upd_ne (by omega)]) (by rw [upd_ne (by decide), upd_ne (by omega)]) (by rw [upd_ne (by decide), upd_ne (by omega)]) ?_
      rw [pn_c (S' := upd (upd Q0 (5 + i) (nI v)) 1 (nI (i + 1))) (S := Q0) (i := 2) (by rw [upd_ne (by decide), upd_ne (by omega)])]
      exact V0.2.1.2.1
    · exact pn_n upd_eq (by omega)
    · rw [upd_ne (by omega), upd_eq]
      exact h3.symm
/-- the row of an act beside the law's rows -/
def QAr (ML : Mem) (Q : Nat → Int32) (x a : Nat) : Prop := Q (14 + (x * 3 + a)) = gI ML (113 + x) a ∧ gI ML (202 + x) a = nI 1 ∧ (∀ j, j < 3 → Q (32 + ((x * 3 + a) * 3 + j)) = gI ML (128 + 4 * x + a) j) ∧ (∀ y, y < 6 → Q (86 + ((x * 3 + a) * 6 + y)) = gI ML (153 + 4 * x + a) y) ∧ ∀ k, k < cT Q (x * 3 + a) → Q (212 + ((x * 3 + a) * 6 + k)) = gI ML (178 + 4 * x + a) k
/-- places of a state's acts in the row -/
def inX (x i : Nat) : Prop := i = 8 + x ∨ (14 + x * 3 ≤ i ∧ i < 17 + x * 3) ∨ (32 + x * 9 ≤ i ∧ i < 41 + x * 9) ∨ (86 + x * 18 ≤ i ∧ i < 104 + x * 18) ∨ (212 + x * 18 ≤ i ∧ i < 230 + x * 18) ∨ (194 + x * 3 ≤ i ∧ i < 197 + x * 3)
theorem QAr.of {ML : Mem} {Q Q' : Nat → Int32} {x a : Nat} (h : QAr ML Q x a) (he : ∀ i, (i = 14 + (x * 3 + a) ∨ (32 + (x * 3 + a) * 3 ≤ i ∧ i < 35 + (x * 3 + a) * 3) ∨ (86 + (x * 3 + a) * 6 ≤ i ∧ i < 92 + (x * 3 + a) * 6) ∨ (212 + (x * 3 + a) * 6 ≤ i ∧ i < 218 + (x * 3 + a) * 6) ∨ i = 194 + (x * 3 + a)) → Q' i = Q i) (ht : cT Q (x * 3 + a) ≤ 6) : QAr ML Q' x a := by
  obtain ⟨h1, h2, h3, h4, h5⟩ := h
  have e3 : cT Q' (x * 3 + a) = cT Q (x * 3 + a) := (row_eq (fun i hi => he i (by omega))).2.2
  refine ⟨by rw [he _ (by omega)]; exact h1, h2, fun j hj => by rw [he _ (by omega)]; exact h3 j hj, fun y hy => by rw [he _ (by omega)]; exact h4 y hy, fun k hk => ?_⟩
  rw [e3] at hk
  rw [he _ (by omega)]
  exact h5 k hk
theorem EL.app {s t : List Nat} (hs : s = [] ∨ ∃ s', s = 59 :: s') (ht : EL t) : EL (s ++ t) := by
  rcases hs with h | ⟨s', h⟩
  · rw [h]; exact ht
  · rw [h]; exact .inr ⟨_, rfl⟩
theorem AS.seg {ML : Mem} {n nb x a : Nat} {s : List Nat} (h : AS ML n nb x a s) : ∃ s', s = 59 :: s' := by
  obtain ⟨g, m, f, -, -, -, -, -, h⟩ := h
  rw [h]
  unfold acT
  rw [WL14]
  simp only [List.append_assoc, List.cons_append]
  exact ⟨_, rfl⟩
theorem pn_self {f : Nat → Int32} {i v : Nat} (h : f i = nI v) (hv : v < 2 ^ 31) : nI (pn f i) = f i := by rw [pn_n h hv, h]
theorem acts_fwd {Z : Nat} {b : Nat → Nat} {n nn nb x : Nat} {Q : Nat → Int32} {ML M : Mem} (hZ : 4000 < Z) (hV : VQ Q) (hn : cN Q = nn) (hB : cB Q = nb) (hx : x < nn) (hM : cM Q x = 0) : ∀ a, a ≤ 3 → ∀ t rest, ActsT ML nn nb x a t → EL rest → PA b n (t ++ rest) Q M → ∃ M' Q', (∀ k fu c, c + a ≤ 1200 → f_X4_parse_L48 Z k (fu + a) (nI c) M = f_X4_parse_L48 Z k fu (nI (c + a)) M') ∧ fr lP M M' ∧ PA b n rest Q' M' ∧ VQ Q' ∧ cM Q' x = a ∧ (∀ a', a' < a → QAr ML Q' x a') ∧ ∀ i, ¬ inX x i → Q' i = Q i := by
  intro a
  induction a with
  | zero =>
    intro _ t rest ht _ h
    subst ht
    exact ⟨M, Q, fun _ _ _ _ => rfl, fr.rfl, h, hV, hM, fun j hj => absurd hj (by omega), fun _ _ => rfl⟩
  | succ a ih =>
    intro ha t rest ⟨t1, s, h1, h2, h3⟩ hr h
    subst h3
    rw [List.append_assoc] at h
    obtain ⟨s', hs'⟩ := h2.seg
    obtain ⟨M0, Q0, e0, f0, p0, V0, c0, l0, o0⟩ := ih (by omega) t1 (s ++ rest) h1 (.inr ⟨s' ++ rest, by rw [hs']; rfl⟩) h
    have eN : cN Q0 = nn := (pn_c (o0 0 (by unfold inX; omega))).trans hn
    have eB : cB Q0 = nb := (pn_c (o0 1 (by unfold inX; omega))).trans hB
    have hN := V0.1.N
    have hBB := V0.1.B
    obtain ⟨g, m, f, ⟨g1, g2, g3⟩, ⟨u1, u2⟩, ⟨m1, m2⟩, ⟨r1, r2, r3⟩, r4, hs⟩ := h2
    rw [hs] at p0
    obtain ⟨M', Q', e, ff, p, V, o, q8, q14, qu, qu0, qt, qo, qp, qz⟩ := act_fwd (x := x) (a := a) (g := g) (f := f) (m := m) (u := pn (gI ML (128 + 4 * x + a))) (p := pn (gI ML (153 + 4 * x + a))) hZ V0 (by omega) (by omega) c0 g1 (by omega) (by omega) (fun j hj => by
      obtain ⟨v, hv, e⟩ := u1 j (by omega)
      rw [pn_n e (by omega)]
      exact hv) (fun j hj => by
      rw [eN]
      obtain ⟨v, hv1, hv, e⟩ := r2 j hj
      rw [pn_n e (by omega)]
      exact hv1) (by rw [eN]; exact r4) hr (by rw [eN, eB]; exact p0)
    refine ⟨M', Q', fun k fu c hc => ?_, f0.trans ff, p, V, ?_, fun a' ha' => ?_, fun i hi => ?_⟩
    · rw [show fu + (a + 1) = (fu + 1) + a by omega, e0 k _ c (by omega), e k fu (c + a) (by omega), show c + a + 1 = c + (a + 1) by omega]
    · unfold cM
      rw [if_pos (by omega)]
      exact pn_n q8 (by omega)
    · by_cases ca : a' = a
      · subst ca
        refine ⟨q14.trans g2.symm, g3, fun j hj => ?_, fun y hy => ?_, fun k hk => ?_⟩
        · by_cases cj : j < nb
          · obtain ⟨v, hv, e⟩ := u1 j cj
            rw [qu j (by omega), pn_self e (by omega)]
          · rw [qu0 j (by omega) hj, u2 j (by omega)]
        · by_cases cy : ∃ j, j < m ∧ (f + j) % nn = y
          · obtain ⟨j, hj, hy⟩ := cy
            obtain ⟨v, hv1, hv, e⟩ := r2 j hj
            have := qp j hj
            rw [eN] at this
            rw [← hy, this, pn_self e (by omega)]
          · have cy' : ∀ j, j < m → (f + j) % nn ≠ y := fun j hj z => cy ⟨j, hj, z⟩
            rw [r3 y hy cy']
            exact qz y hy (by rw [eN]; exact cy')
        · rw [qt] at hk
          have := qo k hk
          rw [eN] at this
          rw [this, r1 k hk]
      · have ht6 := V0.1.T (x * 3 + a') (by omega)
        exact (l0 a' (by omega)).of (fun i hi => o i (by omega) (by omega) (by omega) (by omega) (by omega) (by omega)) ht6
    · unfold inX at hi
      rw [o i (by omega) (by omega) (by omega) (by omega) (by omega) (by omega)]
      exact o0 i (by unfold inX; exact hi)
/-- a state of the law's chain beside the row -/
def StQ (ML : Mem) (Q : Nat → Int32) (y : Nat) : Prop := gI ML 111 y = nI (cM Q y) ∧ 1 ≤ cM Q y ∧ (∀ a, a < cM Q y → QAr ML Q y a) ∧ (∀ a, a < cM Q y → gI ML (120 + y) a = nI (wS Q y a)) ∧ ∀ a, cM Q y ≤ a → a < 3 → gI ML (120 + y) a = nI 0
theorem StQ.of {ML : Mem} {Q Q' : Nat → Int32} {y : Nat} (h : StQ ML Q y) (hy : y < 6) (he : ∀ i, inX y i ∨ i = 320 + y ∨ (326 + y * 3 ≤ i ∧ i < 329 + y * 3) → Q' i = Q i) (hT : ∀ r, r < 18 → cT Q r ≤ 6) (h3 : cM Q y ≤ 3) : StQ ML Q' y := by
  obtain ⟨h1, h2, h4, h5, h6⟩ := h
  have eM : cM Q' y = cM Q y := by
    unfold cM
    rw [if_pos hy, if_pos hy]
    exact pn_c (he _ (by unfold inX; omega))
  refine ⟨by rw [eM]; exact h1, by rw [eM]; exact h2, fun a ha => ?_, fun a ha => ?_, by rw [eM]; exact h6⟩
  · rw [eM] at ha
    exact (h4 a ha).of (fun i hi => he i (by unfold inX; omega)) (hT _ (by omega))
  · rw [eM] at ha
    rw [h5 a ha]
    unfold wS
    rw [he _ (.inr (.inl rfl))]
    by_cases c : Q (320 + y) = nI 1
    · rw [if_pos c, if_pos c, pn_c (he (326 + (y * 3 + a)) (by omega))]
    · rw [if_neg c, if_neg c]
theorem ActsT.hd {ML : Mem} {nn nb x : Nat} : ∀ {a : Nat} {t : List Nat}, ActsT ML nn nb x a t → t = [] ∨ ∃ s, t = 59 :: s
  | 0, _, h => .inl h
  | a + 1, _, ⟨t1, s, h1, h2, h3⟩ => by
    rcases h1.hd with h | ⟨s1, h⟩
    · rw [h3, h]
      exact .inr h2.seg
    · rw [h3, h]
      exact .inr ⟨_, rfl⟩
theorem RuS.hd {ML : Mem} {o m x : Nat} {t : List Nat} (h : RuS ML o m x t) : t = [] ∨ ∃ s, t = 59 :: s := by
  rcases h.2 with ⟨h, -⟩ | h
  · exact .inl h
  · rw [h, WL19]
    simp only [List.append_assoc, List.cons_append]
    exact .inr ⟨_, rfl⟩
theorem sts_fwd {Z : Nat} {b : Nat → Nat} {n nn nb : Nat} {Q : Nat → Int32} {ML M : Mem} (hZ : 4000 < Z) (hV : VQ Q) (hn : cN Q = nn) (hB : cB Q = nb) (hM : ZM Q) : ∀ x, x ≤ nn → ∀ t rest, StT ML nn nb x t → EL rest → PA b n (t ++ rest) Q M → ∃ M' Q' J, J ≤ 4 * x ∧ (∀ k fu c, c + J < 1200 → f_X4_parse_L48 Z k (fu + J) (nI c) M = f_X4_parse_L48 Z k fu (nI (c + J)) M') ∧ fr lP M M' ∧ PA b n rest Q' M' ∧ VQ Q' ∧ (∀ y, y < x → StQ ML Q' y) ∧ (∀ y, x ≤ y → y < 6 → cM Q' y = 0 ∧ Q' (320 + y) = nI 0) ∧ ∀ i, i < 8 → Q' i = Q i := by
  intro x
  induction x with
  | zero =>
    intro _ t rest ht _ h
    subst ht
    exact ⟨M, Q, 0, Nat.le_refl _, fun _ _ _ _ => rfl, fr.rfl, h, hV, fun j hj => absurd hj (by omega), fun y _ hy => hM y hy, fun _ _ => rfl⟩
  | succ x ih =>
    intro hx t rest ⟨t1, t2, t3, m, h1, ⟨hm1, hm3, hm⟩, h2, h3, h4⟩ hr h
    subst h4
    simp only [List.append_assoc] at h
    have el3 : EL (t3 ++ rest) := EL.app h3.hd hr
    have el2 : EL (t2 ++ (t3 ++ rest)) := EL.app h2.hd el3
    obtain ⟨M0, Q0, J, hJ, e0, f0, p0, V0, s0, z0, o0⟩ := ih (by omega) t1 _ h1 el2 h
    have eN : cN Q0 = nn := (pn_c (o0 0 (by decide))).trans hn
    have eB : cB Q0 = nb := (pn_c (o0 1 (by decide))).trans hB
    have hN := V0.1.N
    have x6 : x < 6 := by omega
    obtain ⟨M1, Q1, e1, f1, p1, V1, c1, l1, o1⟩ := acts_fwd hZ V0 eN eB (by omega) (z0 x (Nat.le_refl _) x6).1 m hm3 t2 _ h2 el3 p0
    have eN1 : cN Q1 = nn := (pn_c (o1 0 (by unfold inX; omega))).trans eN
    obtain ⟨⟨w1, w2, w3⟩, hseg⟩ := h3
    obtain ⟨M2, Q2, j, hj, e2, f2, p2, V2, o2, ew⟩ := rule_fwd (w := pn (gI ML (120 + x))) hZ V1 (by omega) hm1 c1 ((o1 (320 + x) (by unfold inX; omega)).trans (z0 x (Nat.le_refl _) x6).2) w2 hseg hr p1
    have eM2 : ∀ y, y < 6 → cM Q2 y = cM Q1 y := fun y hy => by
      unfold cM
      rw [if_pos hy, if_pos hy]
      exact pn_c (o2 _ (by omega) (by omega))
    have eM1 : ∀ y, y < 6 → y ≠ x → cM Q1 y = cM Q0 y := fun y hy hn => by
      unfold cM
      rw [if_pos hy, if_pos hy]
      exact pn_c (o1 _ (by unfold inX; omega))
    refine ⟨M2, Q2, J + (m + j), by omega, fun k fu c hc => ?_, (f0.trans f1).trans f2, p2, V2, fun y hy => ?_, fun y hy hy6 => ⟨?_, ?_⟩, fun i hi => ?_⟩
    · rw [show fu + (J + (m + j)) = ((fu + j) + m) + J by omega, e0 k _ c (by omega), e1 k _ (c + J) (by omega), e2 k fu (c + J + m) (by omega), show c + J + m + j = c + (J + (m + j)) by omega]
    · by_cases cy : y = x
      · subst cy
        have eMy : cM Q2 y = m := (eM2 y x6).trans c1
        refine ⟨by rw [eMy]; exact hm, by rw [eMy]; exact hm1, fun a ha => ?_, fun a ha => ?_, fun a ha h3 => ?_⟩
        · rw [eMy] at ha
          exact (l1 a ha).of (fun i hi => o2 i (by omega) (by omega)) (V1.1.T _ (by omega))
        · rw [eMy] at ha
          rw [ew a ha]
          exact w1 a (by omega)
        · rw [eMy] at ha
          exact w3 a ha h3
      · have hh := s0 y (by omega)
        have := (V0.1.M y (by omega)).2
        exact hh.of (by omega) (fun i hi => by
          unfold inX at hi
          rw [o2 i (by omega) (by omega), o1 i (by unfold inX; omega)]) V0.1.T this
    · rw [eM2 y hy6, eM1 y hy6 (by omega)]
      exact (z0 y (by omega) hy6).1
    · rw [o2 _ (by omega) (by omega), o1 _ (by unfold inX; omega)]
      exact (z0 y (by omega) hy6).2
    · rw [o2 i (by omega) (by omega), o1 i (by unfold inX; omega)]
      exact o0 i hi
