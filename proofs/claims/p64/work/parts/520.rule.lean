/-! the class's parser over a rule -/
theorem ruT_sp {w : Nat → Nat} {t : List Nat} : ∀ m, 1 ≤ m → ∃ s, ruT w m ++ t = sp 1 ++ (dgs (w 0) ++ s)
  | 0, h => absurd h (by decide)
  | m + 1, _ => by
    by_cases c : m = 0
    · subst c
      exact ⟨t, by rw [ruT, ruT]; simp only [List.append_assoc, List.nil_append]; rfl⟩
    · obtain ⟨s, hs⟩ := ruT_sp (w := w) (t := [32] ++ dgs (w m) ++ t) m (by omega)
      exact ⟨s, by rw [ruT, ← hs]; simp only [List.append_assoc]⟩
theorem weights_fwd {Z : Nat} {b : Nat → Nat} {n x m : Nat} {Q1 : Nat → Int32} {M : Mem} {w : Nat → Nat} (hZ : 4000 < Z) (hx : x < 6) (hm : m ≤ 3) (h8 : Q1 (8 + x) = nI m) (hw : sm m w ≤ 10) : ∀ k, k ≤ m → ∀ t, isD (t.headD 0) = false → AtT b n (ruT w k ++ t) M → CQ0 Q1 M → CQWx Q1 x 0 M → VW Q1 → ∃ M' Q', (∀ k0 k1 fu, f_X4_parseWeights_L22 Z (nI x) k0 k1 (fu + k) (nI 10) (nI 0) M = f_X4_parseWeights_L22 Z (nI x) k0 k1 fu (nI (10 - sm k w)) (nI k) M') ∧ fr lP M M' ∧ AtT b n t M' ∧ CQ0 Q' M' ∧ CQWx Q' x k M' ∧ VW Q' ∧ ∀ i, Q' i = if 326 + x * 3 ≤ i ∧ i < 326 + x * 3 + k then nI (w (i - (326 + x * 3))) else Q1 i := by
  intro k
  induction k with
  | zero =>
    intro _ t _ h q c v
    exact ⟨M, Q1, fun _ _ _ => rfl, fr.rfl, h, q, c, v, fun i => (if_neg (by omega)).symm⟩
  | succ k ih =>
    intro hk t ht h q c v
    rw [ruT] at h
    simp only [List.append_assoc] at h
    obtain ⟨M0, Q0, h2, h3, hA, hq, hc, hW, h5⟩ := ih (by omega) ([32] ++ (dgs (w k) ++ t)) (by rfl) h q c v
    have hsk : sm (k + 1) w ≤ 10 := Nat.le_trans (sm_mono9 m (k + 1) hk) hw
    rw [sm] at hsk
    have kd := kindN (i := 1) hA (by omega) ht
    obtain ⟨M1, k1, f1, g1, a1⟩ := numA (i := 1) (lo := 0) (hi := nI (10 - sm k w)) hZ hA (by omega) ht (by decide) ⟨Nat.zero_le _, by rw [nI_toInt (by omega)]; omega⟩
    have v23 : gI M0 23 x = nI m := by rw [show (23 : Nat) = 22 + 1 from rfl, hq.1.2.2.1 x hx, h5, if_neg (by omega)]; exact h8
    have A := (hq.fP f1).updW (j := x * 3 + k) (v := nI (w k)) hW.T (by omega)
    have C := (hc.fP f1).put (v := nI (w k)) hx (by omega)
    refine ⟨sI M1 30 (x * 3 + k) (nI (w k)), upd Q0 (326 + (x * 3 + k)) (nI (w k)), fun k0 k1' fu => ?_, fr_sI (h3.trans f1.p) (by decide), a1.s (by decide) (by decide), A, C, hW.put (by omega) (by rw [mxW]; omega), fun i => ?_⟩
    · rw [show fu + (k + 1) = (fu + 1) + k by omega, h2, f_X4_parseWeights_L22, if_neg (by rw [show (3 : Int32) = nI 3 from rfl, nI_ilt (by decide) (by omega)]; omega), bd_eq, kd, if_pos (show nI 2 = (2 : Int32) from rfl), rdI_n hx (by decide), v23, if_pos (by rw [nI_ilt (by omega) (by omega)]; omega), show f_X4_takeNumber Z M0 0 (nI (10 - sm k w)) = some (1, M1) from k1, cl_some, if_neg (by decide), rowOf_eq, cl_some, bd_eq, g1, wrI_n (by omega) (by decide), bd_eq, gI_sI, if_neg (fun z => absurd z.1 (by decide)), g1, nI_sub (by omega), show nI k + (1 : Int32) = nI (k + 1) from nI_add k 1, show 10 - sm (k + 1) w = 10 - sm k w - w k by rw [sm]; omega]
    · by_cases ci : i = 326 + (x * 3 + k)
      · rw [ci, upd_eq, if_pos (by omega), show 326 + (x * 3 + k) - (326 + x * 3) = k by omega]
      · rw [upd_ne ci, h5]
        by_cases c2 : 326 + x * 3 ≤ i ∧ i < 326 + x * 3 + k
        · rw [if_pos c2, if_pos (by omega)]
        · rw [if_neg c2, if_neg (by omega)]
/-- a rule line, or none -/
theorem rule_fwd {Z : Nat} {b : Nat → Nat} {n x m : Nat} {Q : Nat → Int32} {M : Mem} {w : Nat → Nat} {t seg : List Nat} (hZ : 4000 < Z) (hV : VQ Q) (hx : x < cN Q) (hm1 : 1 ≤ m) (hM : cM Q x = m) (hr : Q (320 + x) = nI 0) (hw : sm m w = 10) (hseg : seg = [] ∧ w 0 = 10 ∨ seg = WL.getD 19 [] ++ dgs x ++ ruT w m) (ht : EL t) (h : PA b n (seg ++ t) Q M) : ∃ M' Q' j, j ≤ 1 ∧ (∀ k fu i, i < 1200 → f_X4_parse_L48 Z k (fu + j) (nI i) M = f_X4_parse_L48 Z k fu (nI (i + j)) M') ∧ fr lP M M' ∧ PA b n t Q' M' ∧ VQ Q' ∧ (∀ i, i ≠ 320 + x → ¬ (326 + x * 3 ≤ i ∧ i < 329 + x * 3) → Q' i = Q i) ∧ ∀ a, a < m → wS Q' x a = w a := by
  have hVV := hV
  obtain ⟨hW, ⟨hN1, hst, hh⟩, hR, hL⟩ := hV
  have hN := hW.N
  have x6 : x < 6 := by omega
  have hMM := hW.M x x6
  have m3 : m ≤ 3 := by omega
  rcases hseg with ⟨h0, hw0⟩ | hseg
  · subst h0
    refine ⟨M, Q, 0, by omega, fun _ _ _ _ => rfl, fr.rfl, h, hVV, fun _ _ _ => rfl, fun a ha => ?_⟩
    unfold wS
    rw [hr, if_neg (by decide)]
    by_cases c : a = 0
    · rw [c, if_pos rfl, hw0]
    · rw [if_neg c]
      obtain ⟨m, rfl⟩ : ∃ k, m = k + 1 := ⟨m - 1, by omega⟩
      have h1 : ∀ k, k + 1 ≤ m + 1 → w 0 ≤ sm (k + 1) w := fun k _ => sm_ge9 (k + 1) 0 (by omega)
      have h2 := h1 (a - 1) (by omega)
      have h3 : sm (a + 1) w ≤ sm (m + 1) w := sm_mono9 (m + 1) (a + 1) (by omega)
      rw [sm] at h3
      rw [show a - 1 + 1 = a by omega] at h2
      omega
  · obtain ⟨s9, hs9⟩ := ruT_sp (w := w) (t := t) m hm1
    obtain ⟨hA, hq, hwq, -⟩ := h
    rw [hseg, WL19] at hA
    simp only [List.append_assoc, List.cons_append] at hA
    rw [hs9] at hA
    have r1 : RuleOK Q x := hL x x6
    have r2 : ∀ a, a < 3 → pn Q (326 + (x * 3 + a)) = 0 := by
      rcases r1 with ⟨z, -⟩ | ⟨-, z⟩
      · exact absurd (z.symm.trans hr) (by decide)
      · exact z
    suffices H : ∃ M', (∀ k fu i, i < 1200 → f_X4_parse_L48 Z k (fu + 1) (nI i) M = f_X4_parse_L48 Z k fu (nI (i + 1)) M') ∧ ∃ Q', fr lP M M' ∧ PA b n t Q' M' ∧ VQ Q' ∧ (∀ i, i ≠ 320 + x → ¬ (326 + x * 3 ≤ i ∧ i < 329 + x * 3) → Q' i = Q i) ∧ ∀ a, a < m → wS Q' x a = w a by
      obtain ⟨M', e, Q', h⟩ := H
      exact ⟨M', Q', 1, Nat.le_refl _, e, h⟩
    refine line_R hZ hA (fun M1 f1 _ a1 => ?_)
    have w4 := isA hZ a1 (by decide) (l := 4) (by decide) (by rfl)
    have w5 := isA hZ a1 (by decide) (l := 5) (by decide) (by rfl)
    have w8 := isA hZ a1 (by decide) (l := 8) (by decide) (by rfl)
    unfold f_X4_parseLine
    rw [w4, cl_some, if_pos (by decide), w5, cl_some, if_pos (by decide), w8, cl_some, if_neg (by decide)]
    unfold f_X4_parseRule
    obtain ⟨M2, k2, f2, -, a2⟩ := advW hZ a1 (by decide) (by rfl)
    obtain ⟨M3, k3, f3, g3, a3⟩ := stAt (Z := Z) (Q := Q) (i := 1) a2 (((hq.fP f1).fP f2).1.1.trans hN.1) hN.2 hx (by rfl)
    have A3 := ((hq.fP f1).fP f2).fP f3
    have W3 := ((hwq.fP f1).fP f2).fP f3
    have ru := A3.ruled x6
    have r1' : ¬ Q (320 + x) = (1 : Int32) := by rw [hr]; decide
    rw [k2, cl_some, k3, cl_some, if_neg (by decide), bd_eq, g3, bd_eq, if_neg (by rw [ru]; exact r1'), bd_eq, bd_eq]
    have A4 := A3.updR hW.T x6
    have a4 : AtT b n (sp 1 ++ (dgs x ++ (sp 1 ++ (dgs (w 0) ++ s9)))) (sI M3 21 6 (gI M3 21 6 ||| ((1 : Int32) <<< (nI x &&& 31)))) := a3.s (by decide) (by decide)
    have W4 : CQWx (upd Q (320 + x) (nI 1)) x 0 (sI M3 21 6 (gI M3 21 6 ||| ((1 : Int32) <<< (nI x &&& 31)))) := by
      refine ⟨fun y hy hn i hi => ?_, upd_eq, fun i hi => ⟨fun z => absurd z (by omega), fun _ => ⟨?_, ?_⟩⟩⟩
      · rw [gI_sI', if_neg (by decide), upd_ne (by omega), upd_ne (by omega)]
        exact W3 y hy i hi
      · rw [gI_sI', if_neg (by decide), W3 x x6 i hi, if_neg (by rw [hr]; decide)]
      · rw [upd_ne (by omega)]
        have := (hW.1 (326 + (x * 3 + i)) (by omega) (by omega)).1
        rw [r2 i hi] at this
        exact this
    have F4 : fr lP M (sI M3 21 6 (gI M3 21 6 ||| ((1 : Int32) <<< (nI x &&& 31)))) := fr_sI ((f1.p.trans f2.p).trans f3.p) (by decide)
    have V4 : VW (upd Q (320 + x) (nI 1)) := hW.put (by omega) (by rw [mxR x6]; decide)
    have u4 : ∀ i, i ≠ 320 + x → upd Q (320 + x) (nI 1) i = Q i := fun i hi => upd_ne hi
    have u41 : upd Q (320 + x) (nI 1) (320 + x) = nI 1 := upd_eq
    generalize sI M3 21 6 (gI M3 21 6 ||| ((1 : Int32) <<< (nI x &&& 31))) = M4 at *
    generalize upd Q (320 + x) (nI 1) = Q4 at *
    obtain ⟨M5, k5, f5, -, a5⟩ := advN hZ a4 (by omega) (by rfl)
    have a5' := a5
    rw [← hs9] at a5
    have hw0 : w 0 ≤ 10 := by
      have := sm_ge9 (f := w) m 0 hm1
      omega
    obtain ⟨M6, Q6, k6, f6, a6, q6, c6, W6, e6⟩ := weights_fwd (Q1 := Q4) hZ x6 m3 ((u4 _ (by omega)).trans (by rw [hMM.1, hM])) (by omega) m (Nat.le_refl _) t ht.hd.2 a5 (A4.fP f5) (W4.fP f5) V4
    have hd9 : isD (s9.headD 0) = false := by
      by_cases c : m = 1
      · subst c
        have : s9 = t := by
          have h : ruT w 1 ++ t = sp 1 ++ (dgs (w 0) ++ t) := by rw [ruT, ruT]; simp only [List.append_assoc, List.nil_append]; rfl
          rw [hs9] at h
          exact List.append_cancel_left (List.append_cancel_left h)
        rw [this]
        exact ht.hd.2
      · have h2 : ∀ m, 2 ≤ m → ∃ s, ruT w m ++ t = sp 1 ++ (dgs (w 0) ++ (sp 1 ++ s)) := by
          intro m
          induction m with
          | zero => intro h; exact absurd h (by decide)
          | succ m ih =>
            intro h
            by_cases c2 : m = 1
            · subst c2
              exact ⟨dgs (w 1) ++ t, by rw [ruT, ruT, ruT]; simp only [List.append_assoc, List.nil_append]; rfl⟩
            · have ih' : ∀ m, 2 ≤ m → ∃ s, ruT w m = sp 1 ++ (dgs (w 0) ++ (sp 1 ++ s)) := by
                intro m
                induction m with
                | zero => intro h; exact absurd h (by decide)
                | succ m ih =>
                  intro h
                  by_cases c2 : m = 1
                  · subst c2
                    exact ⟨dgs (w 1), by rw [ruT, ruT, ruT]; simp only [List.append_assoc, List.nil_append]; rfl⟩
                  · obtain ⟨s, hs⟩ := ih (by omega)
                    exact ⟨s ++ ([32] ++ dgs (w m)), by rw [ruT, hs]; simp only [List.append_assoc]⟩
              obtain ⟨s, hs⟩ := ih' (m + 1) (by omega)
              exact ⟨s ++ t, by rw [hs]; simp only [List.append_assoc]⟩
        obtain ⟨s, hs⟩ := h2 m (by omega)
        rw [hs9] at hs
        have := List.append_cancel_left (List.append_cancel_left hs)
        rw [this]
        rfl
    have kd := kindN (i := 1) a5' (by omega) hd9
    rw [hw] at k6
    obtain ⟨kk, ke, kv, -⟩ := kindE a6 ht
    have ee := endA (Z := Z) a6 ht
    have kR : f_X4_parseWeights Z M5 (nI x) = some (1, M6) := by
      unfold f_X4_parseWeights
      rw [bd_eq, kd, if_pos (show nI 2 = (2 : Int32) from rfl)]
      obtain ⟨fu, hfu⟩ : ∃ fu, Z = (fu + 1) + m := ⟨Z - 1 - m, by omega⟩
      generalize hk1 : (fun (M21 : Mem) => cl (f_X4_fail Z M21 (1 : Int32)) (fun v22 M23 => (if v22 &&& 1 = v22 then some (v22, M23) else none))) = kq
      have k6' := k6 (fun (y16 : Int32) (M17 : Mem) => cl (f_X4_endLine Z M17 y16) (fun v18 M19 => (if v18 &&& 1 = v18 then some (v18, M19) else none))) kq (fu + 1)
      rw [← hfu] at k6'
      rw [show (10 : Int32) = nI 10 from rfl, show (0 : Int32) = nI 0 from rfl, k6', f_X4_parseWeights_L22, if_neg (by rw [show (3 : Int32) = nI 3 from rfl, nI_ilt (by decide) (by omega)]; omega), bd_eq, ke, if_neg (by rw [show (2 : Int32) = nI 2 from rfl, nI_eq (by omega) (by decide)]; omega), Nat.sub_self, ee, cl_some, if_pos (by decide)]
    have eo : ∀ i, i ≠ 320 + x → ¬ (326 + x * 3 ≤ i ∧ i < 329 + x * 3) → Q6 i = Q i := fun i h1 h2 => by
      rw [e6, if_neg (by omega)]
      exact u4 i h1
    have e1 : Q6 (320 + x) = nI 1 := by rw [e6, if_neg (by omega)]; exact u41
    have ew : ∀ a, a < m → Q6 (326 + (x * 3 + a)) = nI (w a) := fun a ha => by rw [e6, if_pos (by omega), show 326 + (x * 3 + a) - (326 + x * 3) = a by omega]
    have wle : ∀ a, a < m → w a ≤ 10 := fun a ha => by
      have := sm_ge9 (f := w) m a ha
      omega
    have ew0 : ∀ a, m ≤ a → a < 3 → pn Q6 (326 + (x * 3 + a)) = 0 := fun a ha h3 => by
      rw [pn_c (S' := Q6) (S := Q4) (by rw [e6, if_neg (by omega)]), pn_c (u4 _ (by omega))]
      exact r2 a h3
    have pw : ∀ a, a < m → pn Q6 (326 + (x * 3 + a)) = w a := fun a ha => pn_n (ew a ha) (by have := wle a ha; omega)
    refine ⟨M6, ?_, Q6, (F4.trans f5.p).trans f6, ⟨a6, q6, c6.all (by omega), W6⟩, ?_, eo, fun a ha => ?_⟩
    · rw [k5, cl_some, kR, cl_some, if_pos (by decide), cl_some, if_pos (by decide)]
    · refine hVV.of x6 W6 (fun i hi => eo i (by omega) (by omega)) (fun y hy hn => ?_) (.inl ⟨e1, ?_, fun a ha hma => ?_⟩)
      · have kp : ∀ i, (i = 320 + y ∨ (326 + y * 3 ≤ i ∧ i < 329 + y * 3) ∨ i < 320) → Q6 i = Q i := fun i hi => eo i (by omega) (by omega)
        have kM : cM Q6 y = cM Q y := by
          unfold cM
          rw [if_pos hy, if_pos hy]
          exact pn_c (kp _ (by omega))
        rcases hL y hy with ⟨r4, r5, r6⟩ | ⟨r4, r5⟩
        · exact Or.inl ⟨by rw [kp _ (by omega)]; exact r4, by rw [pn_c (kp _ (by omega)), pn_c (kp _ (by omega)), pn_c (kp _ (by omega))]; exact r5, fun a ha hm => by rw [pn_c (kp _ (by omega))]; exact r6 a ha (by omega)⟩
        · exact Or.inr ⟨by rw [kp _ (by omega)]; exact r4, fun a ha => by rw [pn_c (kp _ (by omega))]; exact r5 a ha⟩
      · have m123 : m = 1 ∨ m = 2 ∨ m = 3 := by omega
        rcases m123 with c | c | c
        · subst c
          rw [pw 0 (by decide), ew0 1 (by decide) (by decide), ew0 2 (by decide) (by decide)]
          simp only [sm] at hw
          omega
        · subst c
          rw [pw 0 (by decide), pw 1 (by decide), ew0 2 (by decide) (by decide)]
          simp only [sm] at hw
          omega
        · subst c
          rw [pw 0 (by decide), pw 1 (by decide), pw 2 (by decide)]
          simp only [sm] at hw
          omega
      · have kM : cM Q6 x = m := by
          rw [← hM]
          unfold cM
          rw [if_pos x6, if_pos x6]
          exact pn_c (eo _ (by omega) (by omega))
        exact ew0 a (by omega) ha
    · unfold wS
      rw [e1, if_pos rfl]
      exact pw a ha
