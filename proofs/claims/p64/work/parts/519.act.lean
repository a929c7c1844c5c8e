/-! the class's parser over an act -/
theorem gain_v : ∀ g, g < 61 → (-999 ≤ (nI g - (20 : Int32)).toInt ∧ (nI g - (20 : Int32)).toInt ≤ 999) ∧ (g < 20 → -(nI (20 - g)) = nI g - (20 : Int32)) := by decide +kernel
theorem gainA {Z : Nat} {M : Mem} {b : Nat → Nat} {n g r : Nat} {t : List Nat} (hZ : 4000 < Z) (h : AtT b n (gaT g ++ t) M) (hr : r < 18) (hg : g ≤ 60) (ht : isD (t.headD 0) = false) : ∃ M2, f_X4_parseGain Z M (nI r) = some (1, sI M2 24 r (nI g - (20 : Int32))) ∧ fP M M2 ∧ AtT b n t (sI M2 24 r (nI g - (20 : Int32))) := by
  obtain ⟨e, h1, h2⟩ := h
  obtain ⟨-, gv⟩ := gain_v g (by omega)
  unfold gaT at h2
  have e9 : (999 : Int32).toInt = 999 := by decide
  by_cases c : g < 20
  · rw [if_pos c, WL15, List.append_assoc, List.append_assoc] at h2
    obtain ⟨k1, k2, k3⟩ := tC (i := 1) h2 (.inl rfl)
    rw [if_pos rfl] at k1
    have eg : gE b n e = e + 1 + 1 := by unfold gE; rw [if_pos k1, k2]
    obtain ⟨j1, -, -, j4, j5⟩ := tN (i := 0) (v := 20 - g) (t := t) k3 (by omega) ht
    have ev : gV b n e = nI g - (20 : Int32) := by
      unfold gV
      rw [if_pos k1, eg, j4]
      exact gv c
    obtain ⟨M2, e1, f1, o1⟩ := gainC (Z := Z) hZ h1 hr ⟨by rw [eg]; exact j1, by rw [eg, j4]; exact ⟨Nat.zero_le _, by rw [e9]; omega⟩⟩
    rw [ev] at e1 o1
    exact ⟨M2, e1, f1, _, o1, by rw [eg]; exact j5⟩
  · rw [if_neg c, WL16, List.append_assoc] at h2
    obtain ⟨j1, -, -, j4, j5⟩ := tN (i := 1) (v := g - 20) (t := t) h2 (by omega) ht
    have k1 : ¬ tK b n e = 3 := by rw [j1]; decide
    have eg : gE b n e = e := by unfold gE; rw [if_neg k1]
    have ev : gV b n e = nI g - (20 : Int32) := by
      unfold gV
      rw [if_neg k1, eg, j4, show (20 : Int32) = nI 20 from rfl, nI_sub (by omega)]
    obtain ⟨M2, e1, f1, o1⟩ := gainC (Z := Z) hZ h1 hr ⟨by rw [eg]; exact j1, by rw [eg, j4]; exact ⟨Nat.zero_le _, by rw [e9]; omega⟩⟩
    rw [ev] at e1 o1
    exact ⟨M2, e1, f1, _, o1, by rw [eg]; exact j5⟩
theorem line_R {Z : Nat} {M : Mem} {b : Nat → Nat} {n : Nat} {t : List Nat} {P : Mem → Prop} (hZ : 4000 < Z) (h : AtT b n (59 :: t) M) (hp : ∀ M1, fP M M1 → gI M1 21 = gI M 21 → AtT b n t M1 → ∃ M', f_X4_parseLine Z M1 = some (1, M') ∧ P M') : ∃ M', (∀ k fu i, i < 1200 → f_X4_parse_L48 Z k (fu + 1) (nI i) M = f_X4_parse_L48 Z k fu (nI (i + 1)) M') ∧ P M' := by
  obtain ⟨k4, M1, e1, f1, g1, a1⟩ := advS hZ h
  obtain ⟨M', e2, p2⟩ := hp M1 f1 g1 a1
  refine ⟨M', fun k fu i hi => ?_, p2⟩
  rw [f_X4_parse_L48, if_neg (by rw [show (1200 : Int32) = nI 1200 from rfl, nI_ile (by decide) (by omega)]; omega), bd_eq, k4, if_pos (show nI 4 = (4 : Int32) from rfl), e1, cl_some, e2, cl_some, if_neg (by decide), show nI i + (1 : Int32) = nI (i + 1) from nI_add i 1]
theorem PA.fP {b : Nat → Nat} {n : Nat} {t t' : List Nat} {Q : Nat → Int32} {M M' : Mem} (h : PA b n t Q M) (hf : fP M M') (ha : AtT b n t' M') : PA b n t' Q M' := ⟨ha, h.2.1.fP hf, h.2.2.1.fP hf, h.2.2.2⟩
theorem act_fwd {Z : Nat} {b : Nat → Nat} {n x a g f m : Nat} {Q : Nat → Int32} {M : Mem} {u p : Nat → Nat} {t : List Nat} (hZ : 4000 < Z) (hV : VQ Q) (hx : x < cN Q) (ha : a < 3) (hM : cM Q x = a) (hg : g ≤ 60) (hf : f < cN Q) (hm : m ≤ cN Q) (hu : ∀ j, j < cB Q → u j ≤ 60) (hp : ∀ j, j < m → 1 ≤ p ((f + j) % cN Q)) (hs : sm m (fun j => p ((f + j) % cN Q)) = 100) (ht : EL t) (h : PA b n (acT (cB Q) x g f (cN Q) m u p ++ t) Q M) : ∃ M' Q', (∀ k fu i, i < 1200 → f_X4_parse_L48 Z k (fu + 1) (nI i) M = f_X4_parse_L48 Z k fu (nI (i + 1)) M') ∧ fr lP M M' ∧ PA b n t Q' M' ∧ VQ Q' ∧ (∀ i, i ≠ 8 + x → i ≠ 14 + (x * 3 + a) → ¬ (32 + (x * 3 + a) * 3 ≤ i ∧ i < 35 + (x * 3 + a) * 3) → ¬ (86 + (x * 3 + a) * 6 ≤ i ∧ i < 92 + (x * 3 + a) * 6) → ¬ (212 + (x * 3 + a) * 6 ≤ i ∧ i < 218 + (x * 3 + a) * 6) → i ≠ 194 + (x * 3 + a) → Q' i = Q i) ∧ Q' (8 + x) = nI (a + 1) ∧ Q' (14 + (x * 3 + a)) = nI g - (20 : Int32) ∧ (∀ j, j < cB Q → Q' (32 + ((x * 3 + a) * 3 + j)) = nI (u j)) ∧ (∀ j, cB Q ≤ j → j < 3 → Q' (32 + ((x * 3 + a) * 3 + j)) = nI 0) ∧ cT Q' (x * 3 + a) = m ∧ (∀ j, j < m → Q' (212 + ((x * 3 + a) * 6 + j)) = nI ((f + j) % cN Q)) ∧ (∀ j, j < m → Q' (86 + ((x * 3 + a) * 6 + (f + j) % cN Q)) = nI (p ((f + j) % cN Q))) ∧ ∀ y, y < 6 → (∀ j, j < m → (f + j) % cN Q ≠ y) → Q' (86 + ((x * 3 + a) * 6 + y)) = nI 0 := by
  have hVV := hV
  obtain ⟨hW, ⟨c1, c2, c3⟩, hRo, hRu⟩ := hV
  have hN := hW.N
  have hB := hW.B
  have hx6 : x < 6 := by omega
  have hzr := (hRo x hx6 a ha).2 (by omega)
  obtain ⟨r, hr⟩ : ∃ r, r = x * 3 + a := ⟨_, rfl⟩
  rw [← hr] at hzr ⊢
  have hr18 : r < 18 := by omega
  have m1 : ∃ k, m = k + 1 := ⟨m - 1, by
    have : m ≠ 0 := fun z => by rw [z, sm] at hs; exact absurd hs (by decide)
    omega⟩
  obtain ⟨hA, hq, hw, -⟩ := h
  unfold acT at hA
  rw [WL14] at hA
  simp only [List.append_assoc, List.cons_append] at hA
  suffices H : ∃ M', (∀ k fu i, i < 1200 → f_X4_parse_L48 Z k (fu + 1) (nI i) M = f_X4_parse_L48 Z k fu (nI (i + 1)) M') ∧ ∃ Q', fr lP M M' ∧ PA b n t Q' M' ∧ VQ Q' ∧ (∀ i, i ≠ 8 + x → i ≠ 14 + r → ¬ (32 + r * 3 ≤ i ∧ i < 35 + r * 3) → ¬ (86 + r * 6 ≤ i ∧ i < 92 + r * 6) → ¬ (212 + r * 6 ≤ i ∧ i < 218 + r * 6) → i ≠ 194 + r → Q' i = Q i) ∧ Q' (8 + x) = nI (a + 1) ∧ Q' (14 + r) = nI g - (20 : Int32) ∧ (∀ j, j < cB Q → Q' (32 + (r * 3 + j)) = nI (u j)) ∧ (∀ j, cB Q ≤ j → j < 3 → Q' (32 + (r * 3 + j)) = nI 0) ∧ cT Q' r = m ∧ (∀ j, j < m → Q' (212 + (r * 6 + j)) = nI ((f + j) % cN Q)) ∧ (∀ j, j < m → Q' (86 + (r * 6 + (f + j) % cN Q)) = nI (p ((f + j) % cN Q))) ∧ ∀ y, y < 6 → (∀ j, j < m → (f + j) % cN Q ≠ y) → Q' (86 + (r * 6 + y)) = nI 0 by
    obtain ⟨M', e, Q', h⟩ := H
    exact ⟨M', Q', e, h⟩
  refine line_R hZ hA (fun M1 f1 _ a1 => ?_)
  have w4 := isA hZ a1 (by decide) (l := 4) (by decide) (by rfl)
  have w5 := isA hZ a1 (by decide) (l := 5) (by decide) (by rfl)
  unfold f_X4_parseLine
  rw [w4, cl_some, if_pos (by decide), w5, cl_some, if_neg (by decide)]
  unfold f_X4_parseAct
  obtain ⟨M2, k2, f2, -, a2⟩ := advW hZ a1 (by decide) (by rfl)
  have q2 := (hq.fP f1).fP f2
  have hgd : isD ((gaT g ++ (usT u (cB Q) ++ (toT (fun j => (f + j) % cN Q) p m ++ t))).headD 0) = false := by
    unfold gaT
    split
    · rw [WL15]; rfl
    · rw [WL16]; rfl
  obtain ⟨M3, k3, f3, g3, a3⟩ := stAt (Z := Z) (Q := Q) (i := 1) a2 (q2.1.1.trans hN.1) hN.2 hx hgd
  have q3 := q2.fP f3
  obtain ⟨M4, k4, f4, -, a4⟩ := advN hZ a3 (by omega) hgd
  have q4 := q3.fP f4
  have w4q := (((hw.fP f1).fP f2).fP f3).fP f4
  have v3 : gI M3 23 x = nI a := (q3.1.2.2.1 x hx6).trans (by rw [(hW.M x hx6).1, hM])
  have v4 : gI M4 23 x = nI a := (q4.1.2.2.1 x hx6).trans (by rw [(hW.M x hx6).1, hM])
  have hud : isD ((usT u (cB Q) ++ (toT (fun j => (f + j) % cN Q) p m ++ t)).headD 0) = false := by
    obtain ⟨k, rfl⟩ := m1
    have : ∀ c s, isD ((usT u c ++ (sp 1 ++ s)).headD 0) = false := by
      intro c
      induction c with
      | zero => intro s; rfl
      | succ c ih =>
        intro s
        rw [usT]
        by_cases c0 : u c = 0
        · rw [if_pos c0, List.append_nil]; exact ih s
        · rw [if_neg c0, WL17]
          simp only [List.append_assoc]
          exact ih _
    have to1 : ∀ (o : Nat → Nat) k, ∃ s, toT o p (k + 1) ++ t = sp 1 ++ s := by
      intro o k
      induction k with
      | zero => exact ⟨_, by rw [toT, toT, WL18]; simp only [List.append_assoc, List.nil_append]; rfl⟩
      | succ k ih =>
        obtain ⟨s, hs⟩ : ∃ s, toT o p (k + 1) = sp 1 ++ s := by
          clear ih
          induction k with
          | zero => exact ⟨_, by rw [toT, toT, WL18]; simp only [List.append_assoc, List.nil_append]; rfl⟩
          | succ k ih =>
            obtain ⟨s, hs⟩ := ih
            exact ⟨s ++ (WL.getD 18 [] ++ dgs (o (k + 1)) ++ [32] ++ dgs (p (o (k + 1)))), by rw [toT, hs, List.append_assoc]⟩
        exact ⟨s ++ (WL.getD 18 [] ++ dgs (o (k + 1)) ++ [32] ++ dgs (p (o (k + 1)))) ++ t, by rw [toT, hs]; simp only [List.append_assoc]⟩
    obtain ⟨s, hs⟩ := to1 (fun j => (f + j) % cN Q) k
    rw [hs]
    exact this _ s
  obtain ⟨M5, k5, f5, a5⟩ := gainA hZ a4 hr18 hg hud
  have q5 := (q4.fP f5).updG (j := r) (v := nI g - (20 : Int32)) hW.T hr18
  have w5q : CQW (upd Q (14 + r) (nI g - (20 : Int32))) (sI M5 24 r (nI g - (20 : Int32))) := (w4q.fP f5).updL (by omega) (by rw [gI_sI', if_neg (by decide)])
  have W5 : VW (upd Q (14 + r) (nI g - (20 : Int32))) := hW.updG hr18 (gain_v g (by omega)).1
  have fr5 : fr lP M (sI M5 24 r (nI g - (20 : Int32))) := fr_sI ((((f1.p.trans f2.p).trans f3.p).trans f4.p).trans f5.p) (by decide)
  have eQ1 : ∀ i, i ≠ 14 + r → upd Q (14 + r) (nI g - (20 : Int32)) i = Q i := fun i hi => upd_ne hi
  have eQ1g : upd Q (14 + r) (nI g - (20 : Int32)) (14 + r) = nI g - (20 : Int32) := upd_eq
  generalize upd Q (14 + r) (nI g - (20 : Int32)) = Q1 at *
  generalize sI M5 24 r (nI g - (20 : Int32)) = M6 at *
  have eB1 : cB Q1 = cB Q := pn_c (eQ1 1 (by omega))
  have eN1 : cN Q1 = cN Q := pn_c (eQ1 0 (by omega))
  have a5' : ∃ s, toT (fun j => (f + j) % cN Q) p m ++ t = sp 1 ++ (wL 7 ++ (sp 1 ++ s)) := by
    obtain ⟨k, rfl⟩ := m1
    have : ∀ (o : Nat → Nat) k, ∃ s, toT o p (k + 1) = sp 1 ++ (wL 7 ++ (sp 1 ++ s)) := by
      intro o k
      induction k with
      | zero => exact ⟨_, by rw [toT, toT, WL18]; simp only [List.append_assoc, List.nil_append]; rfl⟩
      | succ k ih =>
        obtain ⟨s, hs⟩ := ih
        exact ⟨s ++ (WL.getD 18 [] ++ dgs (o (k + 1)) ++ [32] ++ dgs (p (o (k + 1)))), by rw [toT, hs]; simp only [List.append_assoc]⟩
    obtain ⟨s, hs⟩ := this (fun j => (f + j) % cN Q) k
    exact ⟨s ++ t, by rw [hs]; simp only [List.append_assoc]⟩
  obtain ⟨s, hs7⟩ := a5'
  have a6 : AtT b n (usT u (cB Q) ++ (sp 1 ++ (wL 7 ++ (sp 1 ++ s)))) M6 := by rw [← hs7]; exact a5
  obtain ⟨M7, Q2, k7, f7, p7, e7⟩ := parseUses_ok hZ hr18 eB1 hu (fun j hj => (pn_c (eQ1 _ (by omega))).trans (hzr.2.1 j hj)) ⟨a6, q5, w5q, W5⟩
  rw [← hs7] at p7
  have eN2 : cN Q2 = cN Q := (pn_c (by rw [e7, if_neg (by omega)])).trans eN1
  have e02 : ∀ i, i ≠ 14 + r → ¬ (32 + r * 3 ≤ i ∧ i < 35 + r * 3) → Q2 i = Q i := fun i h1 h2 => by
    rw [e7, if_neg (by omega)]
    exact eQ1 i h1
  obtain ⟨r1, r2, r3⟩ := row_eq (r := r) (Q := Q) (Q' := Q2) (fun i hi => e02 i (by omega) (by omega))
  have hmod : ∀ j, j < m → (f + j) % cN Q < cN Q := fun j _ => Nat.mod_lt _ (by omega)
  obtain ⟨M8, Q3, k8, f8, p8, ap8, ct8, e8, o8, pr8, z8⟩ := parsePercents_ok (Q := Q2) hZ hr18 (by omega) (fun j hj => by rw [eN2]; exact hmod j hj) (fun i j hi hj z => mod_inj (by omega) (by omega) z) hp hs ⟨by rw [r3]; exact hzr.1, by rw [r1]; exact hzr.2.2⟩ ht p7
  have v8 : gI M8 23 x = nI a := by
    rw [show (23 : Nat) = 22 + 1 from rfl, p8.2.1.1.2.2.1 x hx6, e8 _ (by omega) (by omega) (by omega), e02 _ (by omega) (by omega), (hW.M x hx6).1, hM]
  have q9 := p8.2.1.updM (j := x) (v := nI (a + 1)) p8.2.2.2.T hx6
  have w9 : CQW (upd Q3 (8 + x) (nI (a + 1))) (sI M8 23 x (nI (a + 1))) := p8.2.2.1.updL (by omega) (by rw [gI_sI', if_neg (by decide)])
  have W9 : VW (upd Q3 (8 + x) (nI (a + 1))) := p8.2.2.2.put (by omega) (by rw [mxM hx6]; omega)
  have he : ∀ i, i ≠ 8 + x → i ≠ 14 + r → ¬ (32 + r * 3 ≤ i ∧ i < 35 + r * 3) → ¬ (86 + r * 6 ≤ i ∧ i < 92 + r * 6) → ¬ (212 + r * 6 ≤ i ∧ i < 218 + r * 6) → i ≠ 194 + r → upd Q3 (8 + x) (nI (a + 1)) i = Q i := fun i h1 h2 h3 h4 h5 h6 => by
    rw [upd_ne h1, e8 i h4 h5 h6]
    exact e02 i h2 h3
  have ne8 : ∀ i, 14 ≤ i → upd Q3 (8 + x) (nI (a + 1)) i = Q3 i := fun i hi => upd_ne (by omega)
  refine ⟨sI M8 23 x (nI (a + 1)), ?_, upd Q3 (8 + x) (nI (a + 1)), fr_sI ((fr5.trans f7).trans f8) (by decide), ⟨p8.1.s (by decide) (by decide), q9, w9, W9⟩, ?_, he, upd_eq, ?_, fun j hj => ?_, fun j hj hj3 => ?_, ?_, fun j hj => ?_, fun j hj => ?_, fun y hy hj => ?_⟩
  · rw [k2, cl_some, k3, cl_some, if_neg (by decide), bd_eq, g3, rdI_n hx6 (by decide), v3, if_pos (by rw [show (3 : Int32) = nI 3 from rfl, nI_ilt (by omega) (by decide)]; omega), k4, cl_some, rdI_n hx6 (by decide), v4, rowOf_eq, cl_some, ← hr, k5, cl_some, if_neg (by decide), k7, cl_some, if_neg (by decide), k8, cl_some, if_neg (by decide), rdI_n hx6 (by decide), v8, show nI a + (1 : Int32) = nI (a + 1) from nI_add a 1, wrI_n hx6 (by decide), cl_some, if_pos (by decide)]
  · rw [hr] at he
    refine act_VQ hVV hx6 ha hM W9 ?_ (by unfold pn; rw [upd_eq]; exact nI_clamp (by omega)) he
    rw [← hr]
    exact ap8.of (upd_ne (by omega)) (fun i hi => ne8 i (by omega))
  · rw [ne8 _ (by omega), e8 _ (by omega) (by omega) (by omega), e7, if_neg (by omega)]
    exact eQ1g
  · rw [ne8 _ (by omega), e8 _ (by omega) (by omega) (by omega), e7, if_pos (by omega), show 32 + (r * 3 + j) - (32 + r * 3) = j by omega]
  · rw [ne8 _ (by omega), e8 _ (by omega) (by omega) (by omega), e7, if_neg (by omega), eQ1 _ (by omega), (hW.A _ (by omega)).1, hzr.2.1 j hj3]
  · rw [← ct8]
    exact (row_eq (r := r) (fun i hi => ne8 i (by omega))).2.2
  · rw [ne8 _ (by omega)]; exact o8 j hj
  · rw [ne8 _ (by omega)]; exact pr8 j hj
  · rw [ne8 _ (by omega)]; exact z8 y hy hj
