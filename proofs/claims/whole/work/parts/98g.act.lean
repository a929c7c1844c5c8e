/-! the act line -/
theorem act_VQ {Q Q4 : Nat → Int32} {x a : Nat} (hV : VQ Q) (hx : x < 6) (ha : a < 3) (hM : cM Q x = a) (hW : VW Q4) (hA : AP Q4 (x * 3 + a) 100) (h8 : pn Q4 (8 + x) = a + 1) (he : ∀ i, i ≠ 8 + x → i ≠ 14 + (x * 3 + a) → ¬ (32 + (x * 3 + a) * 3 ≤ i ∧ i < 35 + (x * 3 + a) * 3) → ¬ (86 + (x * 3 + a) * 6 ≤ i ∧ i < 92 + (x * 3 + a) * 6) → ¬ (212 + (x * 3 + a) * 6 ≤ i ∧ i < 218 + (x * 3 + a) * 6) → i ≠ 194 + (x * 3 + a) → Q4 i = Q i) : VQ Q4 := by
  obtain ⟨_, ⟨c1, c2, c3⟩, hR, hL⟩ := hV
  have e0 : cN Q4 = cN Q := pn_c (he 0 (by omega) (by omega) (by omega) (by omega) (by omega) (by omega))
  have eM : ∀ y, y < 6 → cM Q4 y = if y = x then a + 1 else cM Q y := fun y hy => by
    unfold cM
    rw [if_pos hy, if_pos hy]
    by_cases c : y = x
    · rw [if_pos c, c, h8]
    · rw [if_neg c]
      exact pn_c (he _ (by omega) (by omega) (by omega) (by omega) (by omega) (by omega))
  refine ⟨hW, ⟨by rw [e0]; exact c1, by rw [e0, pn_c (he 2 (by omega) (by omega) (by omega) (by omega) (by omega) (by omega))]; exact c2, by rw [pn_c (he 3 (by omega) (by omega) (by omega) (by omega) (by omega) (by omega))]; exact c3⟩, fun y hy a' ha' => ?_, fun y hy => ?_⟩
  · rw [eM y hy]
    obtain ⟨h1, h2⟩ := hR y hy a' ha'
    by_cases c : y * 3 + a' = x * 3 + a
    · have cy : y = x := by omega
      have ca : a' = a := by omega
      rw [if_pos cy, cy, ca]
      exact ⟨fun _ => hA, fun z => absurd z (by omega)⟩
    · have k0 : Q4 0 = Q 0 := he 0 (by omega) (by omega) (by omega) (by omega) (by omega) (by omega)
      have k1 : ∀ i, (86 + (y * 3 + a') * 6 ≤ i ∧ i < 92 + (y * 3 + a') * 6) ∨ (212 + (y * 3 + a') * 6 ≤ i ∧ i < 218 + (y * 3 + a') * 6) ∨ i = 194 + (y * 3 + a') → Q4 i = Q i := fun i hi => he i (by omega) (by omega) (by omega) (by omega) (by omega) (by omega)
      have k2 : ∀ i, 32 + (y * 3 + a') * 3 ≤ i ∧ i < 35 + (y * 3 + a') * 3 → Q4 i = Q i := fun i hi => he i (by omega) (by omega) (by omega) (by omega) (by omega) (by omega)
      by_cases cy : y = x
      · rw [if_pos cy]
        have hMy : cM Q y = a := by rw [cy]; exact hM
        exact ⟨fun z => (h1 (by omega)).of k0 k1, fun z => (h2 (by omega)).of k1 k2⟩
      · rw [if_neg cy]
        exact ⟨fun z => (h1 z).of k0 k1, fun z => (h2 z).of k1 k2⟩
  · have k : ∀ i, 320 ≤ i → Q4 i = Q i := fun i hi => he i (by omega) (by omega) (by omega) (by omega) (by omega) (by omega)
    have kp : ∀ i, 320 ≤ i → pn Q4 i = pn Q i := fun i hi => pn_c (k i hi)
    have le : cM Q y ≤ cM Q4 y := by
      rw [eM y hy]
      by_cases cy : y = x
      · rw [if_pos cy, cy, hM]
        omega
      · rw [if_neg cy]
        exact Nat.le_refl _
    rcases hL y hy with ⟨r1, r2, r3⟩ | ⟨r1, r2⟩
    · exact Or.inl ⟨by rw [k _ (by omega)]; exact r1, by rw [kp _ (by omega), kp _ (by omega), kp _ (by omega)]; exact r2, fun b hb hm => by rw [kp _ (by omega)]; exact r3 b hb (by omega)⟩
    · exact Or.inr ⟨by rw [k _ (by omega)]; exact r1, fun b hb => by rw [kp _ (by omega)]; exact r2 b hb⟩
theorem act_sim {Z : Nat} {Mc Mr : Mem} {b : Nat → Nat} {n e : Nat} {Q : Nat → Int32} (hZ : 4000 < Z) (h : GCR b n e Q Mc Mr) (hV : VQ Q) :
    (∃ e' Q' Mc' Mr', f_X4_parseAct Z Mc = some (1, Mc') ∧ f_X12_actLine Z Mr = some ((), Mr') ∧ GCR b n e' Q' Mc' Mr' ∧ VQ Q' ∧ e ≤ e' ∧ fr lP Mc Mc' ∧ fQ Mr Mr') ∨
    (∃ c p Mc' Mr', f_X4_parseAct Z Mc = some (0, Mc') ∧ f_X12_actLine Z Mr = some ((), Mr') ∧ erC c p Mc' ∧ erR c p Mr' ∧ fr lP Mc Mc' ∧ fQ Mr Mr') := by
  obtain ⟨hc, h0, hw, hr⟩ := h
  have hVV := hV
  obtain ⟨hW, ⟨hN1, hst, hh⟩, hR, hL⟩ := hV
  have hN := hW.N
  have he := hc.2.2
  have le1 := tE_le (b := b) he
  obtain ⟨C1, k1, f1, _, o1⟩ := nextC hZ hc
  obtain ⟨R1, q1, s1, t1⟩ := goesOnR hZ hr
  have le2 := tE_le (b := b) o1.2.2
  have c1 : gI C1 22 0 = nI (cN Q) := by rw [f1.1.I (by decide)]; exact h0.1.1.trans hN.1
  unfold f_X4_parseAct
  rw [actLine_eq, k1, cl_some, q1, cl_some]
  by_cases d : sOK b n (tE b n e) Q
  · obtain ⟨C2, k2, f2, g2, o2⟩ := seeStC (Z := Z) o1 c1 d
    have q2 := stHereR (Z := Z) t1 hN.1 d
    have lx := d.lt hN.2 hN1
    generalize hx : tV b n (tE b n e) = x at *
    have x6 : x < 6 := by omega
    have hM := hW.M x x6
    have m2 : gI C2 23 x = nI (cM Q x) := by
      rw [f2.1.I (by decide), f1.1.I (by decide)]
      exact (h0.1.2.2.1 x x6).trans hM.1
    have r8 : gI R1 113 (8 + x) = nI (cM Q x) := by rw [t1.2.2.2.1]; exact hM.1
    rw [k2, cl_some, if_neg (by decide), bd_eq, g2, rdI_n x6 (by decide), m2, q2, cl_some, bd_eq, t1.2.2.1, jn_eq, if_pos (show nI 0 = (0 : Int32) from rfl), show (8 : Int32) = nI 8 from rfl, nI_add, rdI_n (by omega) (by decide), r8]
    try dsimp only
    by_cases cm : cM Q x < 3
    · generalize ha : cM Q x = a at *
      have hr18 : x * 3 + a < 18 := by omega
      generalize hrr : x * 3 + a = r at *
      obtain ⟨hZR0, hZR1⟩ := hR x x6 a cm
      have zr : ZR Q r := by rw [← hrr]; exact hZR1 (by omega)
      have iv : (3 : Int32) * nI x + nI a = nI r := by rw [show (3 : Int32) = nI 3 from rfl, nI_mul, nI_add, ← hrr, Nat.mul_comm]
      rw [if_neg (show ¬ nI a = (3 : Int32) by rw [show (3 : Int32) = nI 3 from rfl, nI_eq (by omega) (by decide)]; omega), if_pos (show nI a < (3 : Int32) by rw [show (3 : Int32) = nI 3 from rfl, nI_ilt (by omega) (by decide)]; exact cm)]
      obtain ⟨C3, k3, f3, _, o3⟩ := nextC hZ o2
      obtain ⟨R3, q3, s3, t3⟩ := goesOnR hZ t1
      have le3 := tE_le (b := b) o2.2.2
      have m3 : gI C3 23 x = nI a := by rw [f3.1.I (by decide)]; exact m2
      have r3 : gI R3 113 (8 + x) = nI a := by rw [t3.2.2.2.1]; exact hM.1
      have ro : f_X11_rowOf Z C3 (nI x) (nI a) = some (nI r, C3) := by
        unfold f_X11_rowOf
        rw [show (3 : Int32) = nI 3 from rfl, nI_mul, nI_add, hrr]
      have ra : rAct Z (nI x) R1 = rRest Z (nI x) (nI a) R3 := by
        unfold rAct
        rw [q3, cl_some, bd_eq, t3.2.2.1, jn_eq, if_pos (show nI 0 = (0 : Int32) from rfl), show (8 : Int32) = nI 8 from rfl, nI_add, rdI_n (by omega) (by decide), r3]
      rw [k3, cl_some, rdI_n x6 (by decide), m3, ro, cl_some, ra]
      generalize hE3 : tE b n (tE b n e) = e3 at *
      have F3 : fr lP Mc C3 := (f1.p.trans f2.p).trans f3.p
      have G3 : fQ Mr R3 := s1.trans s3
      have i14 : (14 : Int32) + nI r = nI (14 + r) := by rw [show (14 : Int32) = nI 14 from rfl, nI_add]
      by_cases dg : gOK b n e3
      · obtain ⟨C4, k4, f4, o4⟩ := gainC hZ o3 hr18 dg
        obtain ⟨R4, q4, s4, t4⟩ := gainR hZ t3 (i := 14 + r) (by omega) dg
        have le4 : e3 ≤ tE b n (gE b n e3) := by
          have := tE_le (b := b) o3.2.2
          unfold gE
          split
          · have := tE_le (b := b) (n := n) (e := tE b n e3) (tE_ok o3.2.2).2
            omega
          · exact this
        have gb := gV_b dg
        generalize hgv : gV b n e3 = g at *
        generalize hE4 : tE b n (gE b n e3) = e4 at *
        have A4 : CQ0 (upd Q (14 + r) g) (sI C4 24 r g) := ((((h0.fP f1).fP f2).fP f3).fP f4).updG hW.T hr18
        have W4 : CQW (upd Q (14 + r) g) (sI C4 24 r g) := ((((hw.fP f1).fP f2).fP f3).fP f4).updL (by omega) (by rw [gI_sI', if_neg (by decide)])
        have V4 : VW (upd Q (14 + r) g) := hW.updG hr18 gb
        have F4 : fr lP Mc (sI C4 24 r g) := fr_sI (F3.trans f4.p) (by decide)
        have un : ∀ i, i ≠ 14 + r → upd Q (14 + r) g i = Q i := fun i hi => upd_ne hi
        generalize hQ4 : upd Q (14 + r) g = Q4 at *
        generalize hC4 : sI C4 24 r g = C4' at *
        have nz4 : nzU Q4 r = 0 := cz_zero 3 (fun i hi => by
          show pn Q4 _ = 0
          rw [pn_c (un _ (by omega))]
          exact zr.2.1 i hi)
        rw [k4, cl_some, if_neg (by decide)]
        unfold rRest f_X4_parseUses
        rw [iv, i14, q4]
        rcases uses_all hZ hr18 iv 3 0 e4 Q4 C4' R4 (by decide) nz4 V4 ⟨o4, A4, W4, t4⟩ with ⟨e5, Q5, C5, R5, k5, q5, g5, V5, u5, le5, F5, G5⟩ | ⟨c5, p5, C5, R5, k5, q5, oC, oR, F5, G5⟩
        · rw [show f_X4_parseUses_L2 Z (nI r) (fun (M25 : Mem) => cl (f_X4_fail Z M25 (3 : Int32)) (fun v26 M27 => (if v26 &&& 1 = v26 then some (v26, M27) else none))) Z (0 : Int32) C4' = some (1, C5) from k5 Z (by omega), cl_some, if_neg (by decide), q5 Z _ (by omega)]
          have zr5 : AP Q5 r 0 := (ZR.ap zr).of ((u5 0 (by omega)).trans (un 0 (by omega))) (fun i hi => (u5 i (by omega)).trans (un i (by omega)))
          have cT5 : cT Q5 r = 0 := by
            unfold cT
            rw [if_pos hr18, pn_c ((u5 (194 + r) (by omega)).trans (un _ (by omega)))]
            have := zr.1
            unfold cT at this
            rw [if_pos hr18] at this
            exact this
          have N5 : cN Q5 = cN Q := pn_c ((u5 0 (by omega)).trans (un 0 (by omega)))
          unfold f_X4_parsePercents
          rcases tos_all hZ hr18 iv (fun (y28 : Int32) (M29 : Mem) => cl (f_X4_endLine Z M29 y28) (fun v30 M31 => (if v30 &&& 1 = v30 then some (v30, M31) else none))) 6 0 0 e5 Q5 C5 R5 (by decide) cT5 zr5 (by decide) V5 (by rw [N5]; exact hN1) g5 with ⟨e6, Q6, S6, C6, R6, k6, q6, g6, V6, a6, l6, u6, le6, F6, G6⟩ | ⟨c6, p6, C6, R6, k6, q6, oC, oR, F6, G6⟩
          · rw [show f_X4_parsePercents_L5 Z (nI r) (fun (y28 : Int32) (M29 : Mem) => cl (f_X4_endLine Z M29 y28) (fun v30 M31 => (if v30 &&& 1 = v30 then some (v30, M31) else none))) (fun (M33 : Mem) => cl (f_X4_fail Z M33 (3 : Int32)) (fun v34 M35 => (if v34 &&& 1 = v34 then some (v34, M35) else none))) Z (100 : Int32) (0 : Int32) C5 = _ from k6 Z (by omega), show f_X12_actLine_L142 Z (nI x) (nI a) (rEnd Z (nI x)) Z (0 : Int32) R5 = _ from q6 Z _ (by omega)]
            have FA := (F4.trans F5).trans F6
            have GA := ((G3.trans s4).trans G5).trans G6
            by_cases de : atEnd b n e6 ∧ 100 - S6 = 0
            · have S100 : S6 = 100 := by omega
              have k7 := endC (Z := Z) g6.1 de.1
              have q7 := endsR (Z := Z) (w := 1) g6.2.2.2 de.1 (by decide)
              have u8 : Q6 (8 + x) = nI a := by
                rw [u6 (8 + x) (by omega) (by omega) (by omega), u5 (8 + x) (by omega), un (8 + x) (by omega)]
                exact hM.1
              have m6 : gI C6 23 x = nI a := (g6.2.1.1.2.2.1 x x6).trans u8
              have r6 : gI R6 113 (8 + x) = nI a := by rw [g6.2.2.2.2.2.2.1]; exact u8
              refine Or.inl ⟨e6, upd Q6 (8 + x) (nI (a + 1)), sI C6 23 x (nI (a + 1)), sI R6 113 (8 + x) (nI (a + 1)), ?_, ?_, ⟨g6.1.s (by decide) (by decide), g6.2.1.updM V6.T x6, g6.2.2.1.updL (by omega) (by rw [gI_sI', if_neg (by decide)]), g6.2.2.2.w⟩, ?_, by omega, fr_sI FA (by decide), GA.w⟩
              · try dsimp only
                rw [de.2, k7, cl_some, if_pos (by decide), cl_some, if_neg (by decide), rdI_n x6 (by decide), m6, show nI a + (1 : Int32) = nI (a + 1) from nI_add a 1, wrI_n x6 (by decide)]
              · unfold rEnd
                rw [jn_eq, S100, if_pos (show nI 100 = (100 : Int32) from rfl)]
                dsimp only
                rw [q7, cl_some, show (8 : Int32) = nI 8 from rfl, nI_add, rdI_n (by omega) (by decide), r6, bd_eq, g6.2.2.2.2.2.1, if_pos (show nI 0 = (0 : Int32) from rfl), show nI a + (1 : Int32) = nI (a + 1) from nI_add a 1, wrI_n (by omega) (by decide)]
              · have ne8 : ∀ i, i ≠ 8 + x → upd Q6 (8 + x) (nI (a + 1)) i = Q6 i := fun i hi => upd_ne hi
                refine act_VQ hVV x6 cm ha (V6.put (by omega) (by rw [mxM x6]; omega)) ?_ (by rw [pn_upd (by omega), if_pos rfl]) (fun i i1 i2 i3 i4 i5 i6 => ?_)
                · rw [hrr]
                  rw [S100] at a6
                  exact a6.of (ne8 0 (by omega)) (fun i hi => ne8 i (by omega))
                · rw [hrr] at i2 i3 i4 i5 i6
                  rw [ne8 i i1, u6 i (by omega) (by omega) i6, u5 i (by omega), un i i2]
            · obtain ⟨C7, k7, f7, o7⟩ := endN (Z := Z) g6.1 (rest := 100 - S6) (by omega) de
              have bad : ∃ w, ¬ (atEnd b n e6 ∧ w ≠ (0 : Int32)) ∧ rEnd Z (nI x) (nI S6) R6 = cl (f_X12_endsAt Z R6 w) (fun v38 M39 => rdI M39 113 344 ((8 : Int32) + nI x) (fun v40 => bd (gI M39 (108) 19) (fun v41 => (if v41 = 0 then wrI M39 113 344 ((8 : Int32) + nI x) (v40 + (1 : Int32)) (fun M43 => some ((), M43)) else wrI M39 113 344 ((8 : Int32) + nI x) (v40 + (0 : Int32)) (fun M42 => some ((), M42)))))) := by
                by_cases s : S6 = 100
                · refine ⟨1, fun z => de ⟨z.1, by omega⟩, ?_⟩
                  unfold rEnd
                  rw [jn_eq, s, if_pos (show nI 100 = (100 : Int32) from rfl)]
                · refine ⟨0, fun z => z.2 rfl, ?_⟩
                  unfold rEnd
                  rw [jn_eq, if_neg (show ¬ nI S6 = (100 : Int32) by rw [show (100 : Int32) = nI 100 from rfl, nI_eq (by omega) (by decide)]; exact s)]
              obtain ⟨w, w1, w2⟩ := bad
              obtain ⟨R7, q7, s7, t7⟩ := endsN (Z := Z) (w := w) g6.2.2.2 w1
              refine Or.inr ⟨_, _, C7, sI R7 113 (8 + x) (gI R7 113 (8 + x) + 0), ?_, ?_, o7, t7.w, FA.trans (f7.mono (by decide)), (GA.trans s7).w⟩
              · try dsimp only
                rw [k7, cl_some, if_pos (by decide), cl_some, if_pos rfl]
              · rw [w2, q7, cl_some, show (8 : Int32) = nI 8 from rfl, nI_add, rdI_n (by omega) (by decide), bd_eq, if_neg (er_ne t7), wrI_n (by omega) (by decide)]
          · obtain ⟨w, q6'⟩ := q6 Z (rEnd Z (nI x)) (by omega)
            obtain ⟨R7, q7, s7, t7⟩ := rEndE (Z := Z) (w := w) oR x6
            refine Or.inr ⟨c6, p6, C6, R7, ?_, ?_, oC, t7, (F4.trans F5).trans F6, (((G3.trans s4).trans G5).trans G6).trans s7⟩
            · rw [show f_X4_parsePercents_L5 Z (nI r) (fun (y28 : Int32) (M29 : Mem) => cl (f_X4_endLine Z M29 y28) (fun v30 M31 => (if v30 &&& 1 = v30 then some (v30, M31) else none))) (fun (M33 : Mem) => cl (f_X4_fail Z M33 (3 : Int32)) (fun v34 M35 => (if v34 &&& 1 = v34 then some (v34, M35) else none))) Z (100 : Int32) (0 : Int32) C5 = _ from k6 Z (by omega), cl_some, if_pos rfl]
            · rw [show f_X12_actLine_L142 Z (nI x) (nI a) (rEnd Z (nI x)) Z (0 : Int32) R5 = _ from q6']
              exact q7
        · have : ∃ R7, f_X12_actLine_L142 Z (nI x) (nI a) (rEnd Z (nI x)) Z (0 : Int32) R5 = some ((), R7) ∧ fQ R5 R7 ∧ erR c5 p5 R7 := by
            obtain ⟨R7, q7, s7, t7⟩ := rEndE (Z := Z) (w := 0) oR x6
            obtain ⟨z, rfl⟩ : ∃ z, Z = z + 1 := ⟨Z - 1, by omega⟩
            refine ⟨R7, ?_, s7, t7⟩
            rw [f_X12_actLine_L142, passesE oR, cl_some, if_pos rfl]
            exact q7
          obtain ⟨R7, q7, s7, t7⟩ := this
          refine Or.inr ⟨c5, p5, C5, R7, ?_, ?_, oC, t7, F4.trans F5, ((G3.trans s4).trans G5).trans s7⟩
          · rw [show f_X4_parseUses_L2 Z (nI r) (fun (M25 : Mem) => cl (f_X4_fail Z M25 (3 : Int32)) (fun v26 M27 => (if v26 &&& 1 = v26 then some (v26, M27) else none))) Z (0 : Int32) C4' = some (0, C5) from k5 Z (by omega), cl_some, if_pos rfl]
          · rw [q5 Z _ (by omega)]
            exact q7
      · obtain ⟨C4, k4, f4, o4⟩ := gainN (r := r) hZ o3 dg
        obtain ⟨R4, q4, s4, t4⟩ := gainRN (i := (14 : Int32) + (((3 : Int32) * nI x) + nI a)) hZ t3 dg
        obtain ⟨z, rfl⟩ : ∃ z, Z = z + 1 := ⟨Z - 1, by omega⟩
        obtain ⟨R5, q5, s5, t5⟩ := rEndE (Z := z + 1) (w := 0) t4 x6
        refine Or.inr ⟨_, _, C4, R5, ?_, ?_, o4, t5, F3.trans (f4.mono (by decide)), (G3.trans s4).trans s5⟩
        · rw [k4, cl_some, if_pos rfl]
        · unfold rRest
          rw [q4, f_X12_actLine_L122, passesE t4, cl_some, if_pos rfl, f_X12_actLine_L142, passesE t4, cl_some, if_pos rfl]
          exact q5
    · have e3 : cM Q x = 3 := by omega
      obtain ⟨C3, k3, f3, o3⟩ := failC (Z := Z) (c := 4) o2
      obtain ⟨R3, q3, s3, t3⟩ := failsR (Z := Z) t1 (c := 4) (by decide) (by decide)
      obtain ⟨R4, q4, s4, t4⟩ := rActE hZ t3 x6
      refine Or.inr ⟨_, _, C3, R4, ?_, ?_, o3, t4, (f1.p.trans f2.p).trans (f3.mono (by decide)), (s1.trans s3).trans s4⟩
      · rw [e3, if_neg (by decide), show (4 : Int32) = nI 4 from rfl, k3, cl_some, if_pos (by decide)]
      · rw [e3, if_pos (by decide), show (4 : Int32) = nI 4 from rfl, q3, cl_some]
        exact q4
  · obtain ⟨C2, k2, f2, o2⟩ := seeStN (Z := Z) o1 c1 d
    obtain ⟨R2, q2, s2, t2⟩ := stHereN (Z := Z) t1 hN.1 d
    obtain ⟨R4, q4, s4, t4⟩ := rActE (x := 0) hZ t2 (by decide)
    refine Or.inr ⟨_, _, C2, R4, ?_, ?_, o2, t4, f1.p.trans (f2.mono (by decide)), (s1.trans s2).trans s4⟩
    · rw [k2, cl_some, if_pos rfl]
    · rw [q2, cl_some, bd_eq, jn_eq, if_neg (er_ne t2)]
      exact q4
