/-! a line, the lines -/
theorem VQ.of2 {Q Q' : Nat → Int32} (h : VQ Q) (hW : VW Q') (he : ∀ i, 8 ≤ i → Q' i = Q i) (h0 : Q' 0 = Q 0) (h3 : Q' 3 = Q 3) (h2 : pn Q' 2 < cN Q) : VQ Q' := by
  obtain ⟨_, ⟨c1, c2, c3⟩, hR, hL⟩ := h
  have e0 : cN Q' = cN Q := pn_c h0
  have eM : ∀ y, y < 6 → cM Q' y = cM Q y := fun y hy => by
    unfold cM
    rw [if_pos hy, if_pos hy]
    exact pn_c (he _ (by omega))
  refine ⟨hW, ⟨by rw [e0]; exact c1, by rw [e0]; exact h2, by rw [pn_c h3]; exact c3⟩, fun y hy a ha => ?_, fun y hy => ?_⟩
  · rw [eM y hy]
    obtain ⟨h1, h2⟩ := hR y hy a ha
    exact ⟨fun z => (h1 z).of h0 (fun i hi => he i (by omega)), fun z => (h2 z).of (fun i hi => he i (by omega)) (fun i hi => he i (by omega))⟩
  · have kp : ∀ i, 8 ≤ i → pn Q' i = pn Q i := fun i hi => pn_c (he i hi)
    rcases hL y hy with ⟨r4, r5, r6⟩ | ⟨r4, r5⟩
    · exact Or.inl ⟨by rw [he _ (by omega)]; exact r4, by rw [kp _ (by omega), kp _ (by omega), kp _ (by omega)]; exact r5, fun a ha hm => by rw [kp _ (by omega)]; exact r6 a ha (by rw [← eM y hy]; exact hm)⟩
    · exact Or.inr ⟨by rw [he _ (by omega)]; exact r4, fun a ha => by rw [kp _ (by omega)]; exact r5 a ha⟩
theorem mxq2 : mxq 2 = 5 := by decide
theorem mxq1 : mxq 1 = 3 := by decide
theorem line_sim {Z : Nat} {Mc Mr : Mem} {b : Nat → Nat} {n e : Nat} {Q : Nat → Int32} (hZ : 4000 < Z) (h : GCR b n e Q Mc Mr) (hV : VQ Q) :
    (∃ e' Q' Mc' Mr', f_X4_parseLine Z Mc = some (1, Mc') ∧ f_X12_line Z Mr = some ((), Mr') ∧ GCR b n e' Q' Mc' Mr' ∧ VQ Q' ∧ e ≤ e' ∧ fr lP Mc Mc' ∧ fQ Mr Mr') ∨
    (∃ c p Mc' Mr', f_X4_parseLine Z Mc = some (0, Mc') ∧ f_X12_line Z Mr = some ((), Mr') ∧ erC c p Mc' ∧ erR c p Mr' ∧ fr lP Mc Mc' ∧ fQ Mr Mr') := by
  have iC : ∀ t, t < 10 → f_X2_isWord Z Mc t = some (bN (isW b n e t), Mc) := fun t ht => isWordC hZ h.1.1 h.1.2.1 h.1.2.2 ht
  have iR : ∀ t, t < 10 → f_X12_isWord Z Mr t = some (bN (isW b n e t), Mr) := fun t ht => isWordR hZ h.2.2.2 ht
  have hW := hV.1
  unfold f_X4_parseLine f_X12_line
  rw [iC 4 (by decide), cl_some, iR 4 (by decide), cl_some]
  by_cases c4 : isW b n e 4 = true
  · rw [c4, if_neg (by decide), if_neg (by decide)]
    rcases budget_sim hZ h hW.T hW.B.2 hW.B.1 with ⟨e', l, Mc', Mr', k1, q1, g, h3, hl, le, F, G⟩ | ⟨c, p, Mc', Mr', k1, q1, oC, oR, F, G⟩
    · refine Or.inl ⟨e', _, Mc', Mr', by rw [k1, cl_some, if_pos (by decide)], by rw [q1, cl_some], g, ?_, le, F, G⟩
      refine hV.of2 ((hW.put (by omega) (by rw [mxL h3]; exact hl)).put (by omega) (by rw [mxq1]; omega)) (fun i hi => by rw [upd_ne (by omega), upd_ne (by omega)]) (by rw [upd_ne (by omega), upd_ne (by omega)]) (by rw [upd_ne (by omega), upd_ne (by omega)]) ?_
      rw [pn_c (S' := upd (upd Q (5 + cB Q) (nI l)) 1 (nI (cB Q + 1))) (S := Q) (by rw [upd_ne (by omega), upd_ne (by omega)])]
      exact hV.2.1.2.1
    · exact Or.inr ⟨c, p, Mc', Mr', by rw [k1, cl_some, if_pos (by decide)], by rw [q1, cl_some], oC, oR, F, G⟩
  · have c4' : isW b n e 4 = false := by simpa using c4
    rw [c4', if_pos (show bN false = (0 : Int32) from rfl), if_pos (show bN false = (0 : Int32) from rfl), iC 5 (by decide), cl_some, iR 5 (by decide), cl_some]
    by_cases c5 : isW b n e 5 = true
    · rw [c5, if_neg (by decide), if_neg (by decide)]
      rcases act_sim hZ h hV with ⟨e', Q', Mc', Mr', k1, q1, g, v, le, F, G⟩ | ⟨c, p, Mc', Mr', k1, q1, oC, oR, F, G⟩
      · exact Or.inl ⟨e', Q', Mc', Mr', by rw [k1, cl_some, if_pos (by decide)], by rw [q1, cl_some], g, v, le, F, G⟩
      · exact Or.inr ⟨c, p, Mc', Mr', by rw [k1, cl_some, if_pos (by decide)], by rw [q1, cl_some], oC, oR, F, G⟩
    · have c5' : isW b n e 5 = false := by simpa using c5
      rw [c5', if_pos (show bN false = (0 : Int32) from rfl), if_pos (show bN false = (0 : Int32) from rfl), iC 8 (by decide), cl_some, iR 8 (by decide), cl_some]
      by_cases c8 : isW b n e 8 = true
      · rw [c8, if_neg (by decide), if_neg (by decide)]
        rcases rule_sim hZ h hV with ⟨e', Q', Mc', Mr', k1, q1, g, v, le, F, G⟩ | ⟨c, p, Mc', Mr', k1, q1, oC, oR, F, G⟩
        · exact Or.inl ⟨e', Q', Mc', Mr', by rw [k1, cl_some, if_pos (by decide)], by rw [q1, cl_some], g, v, le, F, G⟩
        · exact Or.inr ⟨c, p, Mc', Mr', by rw [k1, cl_some, if_pos (by decide)], by rw [q1, cl_some], oC, oR, F, G⟩
      · have c8' : isW b n e 8 = false := by simpa using c8
        rw [c8', if_pos (show bN false = (0 : Int32) from rfl), if_pos (show bN false = (0 : Int32) from rfl), iR 9 (by decide), cl_some]
        by_cases c9 : isW b n e 9 = true
        · rw [c9, if_neg (by decide)]
          rcases start_sim hZ h hW.T hV.2.1.1 hW.N.2 hW.N.1 c9 with ⟨e', x, Mc', Mr', k1, q1, g, hx, le, F, G⟩ | ⟨c, p, Mc', Mr', k1, q1, oC, oR, F, G⟩
          · refine Or.inl ⟨e', _, Mc', Mr', by rw [k1, cl_some, if_pos (by decide)], by rw [q1, cl_some], g, ?_, le, F, G⟩
            have := hW.N.2
            refine hV.of2 (hW.put (by omega) (by rw [mxq2]; omega)) (fun i hi => upd_ne (by omega)) (upd_ne (by omega)) (upd_ne (by omega)) ?_
            rw [pn_upd (by omega), if_pos rfl]
            exact hx
          · exact Or.inr ⟨c, p, Mc', Mr', by rw [k1, cl_some, if_pos (by decide)], by rw [q1, cl_some], oC, oR, F, G⟩
        · have c9' : isW b n e 9 = false := by simpa using c9
          obtain ⟨C1, k1, f1, o1⟩ := takeWordN hZ h.1 (by decide) c9'
          obtain ⟨R1, q1, s1, t1⟩ := failsR (Z := Z) h.2.2.2 (c := 1) (by decide) (by decide)
          refine Or.inr ⟨_, _, C1, R1, ?_, ?_, o1, t1, f1.mono (by decide), s1⟩
          · unfold f_X4_parseStart
            rw [k1, cl_some, if_pos rfl, cl_some, if_pos (by decide)]
          · rw [c9', if_pos (show bN false = (0 : Int32) from rfl), show (1 : Int32) = nI 1 from rfl, q1, cl_some]
theorem semi {b : Nat → Nat} {n e : Nat} (he : e ≤ n) (h : tK b n e = 4) : e < tE b n e := by
  have a := (tA_ok (b := b) he).1
  unfold tK at h
  unfold tE
  by_cases c1 : n ≤ tA b n e
  · rw [if_pos c1] at h
    exact absurd h (by decide)
  · rw [if_neg c1] at h ⊢
    by_cases c2 : isL (b (tA b n e)) = true
    · rw [if_pos c2] at h
      split at h <;> exact absurd h (by decide)
    · rw [if_neg c2] at h ⊢
      by_cases c3 : isD (b (tA b n e)) = true
      · rw [if_pos c3] at h
        split at h <;> exact absurd h (by decide)
      · rw [if_neg c3]
        omega
theorem lines_all {Z : Nat} {b : Nat → Nat} {n : Nat} (hZ : 4000 < Z) (hn : n ≤ 1200) : ∀ d i e (Q : Nat → Int32) (Mc Mr : Mem), n - e ≤ d → i ≤ e → VQ Q → GCR b n e Q Mc Mr →
    (∃ e' Q' Mc' Mr', (∀ m k, d < m → f_X4_parse_L48 Z k m (nI i) Mc = k Mc') ∧ (∀ m k, d + 1 < m → f_X12_reads_L94 Z k m Mr = k Mr') ∧ GCR b n e' Q' Mc' Mr' ∧ VQ Q' ∧ tK b n e' ≠ 4 ∧ fr lP Mc Mc' ∧ fQ Mr Mr') ∨
    (∃ c p Mc' Mr', (∀ m k, d < m → f_X4_parse_L48 Z k m (nI i) Mc = some (0, Mc')) ∧ (∀ m k, d + 1 < m → f_X12_reads_L94 Z k m Mr = k Mr') ∧ erC c p Mc' ∧ erR c p Mr' ∧ fr lP Mc Mc' ∧ fQ Mr Mr')
  | d, i, e, Q, Mc, Mr, hd, hi, hV, h => by
    have he := h.1.2.2
    have kl := tK_lt (b := b) (n := n) (e := e)
    have kl2 := kR_lt kl
    by_cases c : tK b n e = 4
    · have lt := semi he c
      have le := (tE_ok (b := b) he).2
      obtain ⟨C1, k1, f1, _, o1⟩ := nextC hZ h.1
      obtain ⟨R1, q1, s1, t1⟩ := nextR hZ h.2.2.2
      have wC : ∀ m k, f_X4_parse_L48 Z k (m + 1) (nI i) Mc = cl (f_X4_parseLine Z C1) (fun v17 M18 => (if v17 = 0 then some ((0 : Int32), M18) else f_X4_parse_L48 Z k m (nI (i + 1)) M18)) := fun m k => by
        rw [f_X4_parse_L48, if_neg (by rw [show (1200 : Int32) = nI 1200 from rfl, nI_ile (by decide) (by omega)]; omega), bd_eq, h.1.2.1.1, if_pos (by rw [c]; rfl), k1, cl_some, show nI i + (1 : Int32) = nI (i + 1) from nI_add i 1]
      have wR : ∀ m k, f_X12_reads_L94 Z k (m + 1) Mr = cl (f_X12_line Z R1) (fun v30 M31 => f_X12_reads_L94 Z k m M31) := fun m k => by
        rw [f_X12_reads_L94, bd_eq, h.2.2.2.2.2.1, if_pos (show nI 0 = (0 : Int32) from rfl), bd_eq, h.2.2.2.2.1.1, if_pos (by rw [c]; rfl), q1, cl_some]
      rcases line_sim hZ ⟨o1, h.2.1.fP f1, h.2.2.1.fP f1, t1⟩ hV with ⟨e', Q', Mc', Mr', k2, q2, g, v, le2, F, G⟩ | ⟨c1, p, Mc', Mr', k2, q2, oC, oR, F, G⟩
      · have e'n := g.1.2.2
        rcases lines_all hZ hn (d - 1) (i + 1) e' Q' Mc' Mr' (by omega) (by omega) v g with ⟨e3, Q3, C3, R3, k3, q3, g3, v3, t3, F3, G3⟩ | ⟨c3, p3, C3, R3, k3, q3, oC, oR, F3, G3⟩
        · refine Or.inl ⟨e3, Q3, C3, R3, fun m k hm => ?_, fun m k hm => ?_, g3, v3, t3, (f1.p.trans F).trans F3, (s1.trans G).trans G3⟩
          · obtain ⟨m', rfl⟩ : ∃ m', m = m' + 1 := ⟨m - 1, by omega⟩
            rw [wC, k2, cl_some, if_neg (by decide)]
            exact k3 m' k (by omega)
          · obtain ⟨m', rfl⟩ : ∃ m', m = m' + 1 := ⟨m - 1, by omega⟩
            rw [wR, q2, cl_some]
            exact q3 m' k (by omega)
        · refine Or.inr ⟨c3, p3, C3, R3, fun m k hm => ?_, fun m k hm => ?_, oC, oR, (f1.p.trans F).trans F3, (s1.trans G).trans G3⟩
          · obtain ⟨m', rfl⟩ : ∃ m', m = m' + 1 := ⟨m - 1, by omega⟩
            rw [wC, k2, cl_some, if_neg (by decide)]
            exact k3 m' k (by omega)
          · obtain ⟨m', rfl⟩ : ∃ m', m = m' + 1 := ⟨m - 1, by omega⟩
            rw [wR, q2, cl_some]
            exact q3 m' k (by omega)
      · refine Or.inr ⟨c1, p, Mc', Mr', fun m k hm => ?_, fun m k hm => ?_, oC, oR, f1.p.trans F, s1.trans G⟩
        · obtain ⟨m', rfl⟩ : ∃ m', m = m' + 1 := ⟨m - 1, by omega⟩
          rw [wC, k2, cl_some, if_pos rfl]
        · obtain ⟨m', rfl⟩ : ∃ m', m = m' + 1 + 1 := ⟨m - 2, by omega⟩
          rw [wR, q2, cl_some, f_X12_reads_L94, bd_eq, if_neg (er_ne oR)]
    · refine Or.inl ⟨e, Q, Mc, Mr, fun m k hm => ?_, fun m k hm => ?_, h, hV, c, fr.rfl, fQ.rfl⟩
      · obtain ⟨m', rfl⟩ : ∃ m', m = m' + 1 := ⟨m - 1, by omega⟩
        rw [f_X4_parse_L48, bd_eq, h.1.2.1.1]
        by_cases d2 : (1200 : Int32) ≤ nI i
        · rw [if_pos d2]
        · rw [if_neg d2, if_neg (by rw [show (4 : Int32) = nI 4 from rfl, nI_eq (by omega) (by decide)]; exact c)]
      · obtain ⟨m', rfl⟩ : ∃ m', m = m' + 1 := ⟨m - 1, by omega⟩
        rw [f_X12_reads_L94, bd_eq, h.2.2.2.2.2.1, if_pos (show nI 0 = (0 : Int32) from rfl), bd_eq, h.2.2.2.2.1.1, if_neg (by rw [show (3 : Int32) = nI 3 from rfl, nI_eq (by omega) (by decide), kR_3]; exact c)]
termination_by d => d
decreasing_by omega
