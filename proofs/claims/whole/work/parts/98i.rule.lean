/-! the rule line -/
def rREnd (Z : Nat) (y33 : Int32) (M34 : Mem) : Option (Unit × Mem) := jn (fun (t35 : Int32) => cl (f_X12_endsAt Z M34 t35) (fun v36 M37 => some ((), M37))) (fun j39 => (if y33 = (10 : Int32) then j39 (1 : Int32) else j39 (0 : Int32)))
def rRule (Z : Nat) (v3 : Int32) (t6 : Mem) : Option (Unit × Mem) := cl (f_X12_goesOn Z t6) (fun v7 M8 => cl (f_X12_puts Z M8 ((320 : Int32) + v3) (1 : Int32)) (fun v9 M10 => f_X12_ruleLine_L53 Z v3 (rREnd Z) Z (0 : Int32) (0 : Int32) M10))
theorem ruleLine_eq {Z : Nat} {M : Mem} : f_X12_ruleLine Z M = cl (f_X12_goesOn Z M) (fun v1 M2 => cl (f_X12_stateHere Z M2) (fun v3 M4 => bd (gI M4 (108) 19) (fun v5 => jn (fun (t6 : Mem) => rRule Z v3 t6) (fun j42 => (if v5 = 0 then rdI M4 113 344 ((320 : Int32) + v3) (fun v43 => (if v43 = (1 : Int32) then cl (f_X12_fails Z M4 (3 : Int32)) (fun v44 M45 => j42 M45) else j42 M4)) else j42 M4))))) := rfl
theorem rREndE {Z : Nat} {M : Mem} {c p : Nat} {w : Int32} (h : erR c p M) : rREnd Z w M = some ((), M) := by
  unfold rREnd
  rw [jn_eq]
  by_cases d : w = (10 : Int32)
  · rw [if_pos d]
    dsimp only
    rw [endsE h, cl_some]
  · rw [if_neg d]
    dsimp only
    rw [endsE h, cl_some]
theorem rRuleE {Z : Nat} {M : Mem} {c p : Nat} {v3 : Int32} (hZ : 4000 < Z) (h : erR c p M) : rRule Z v3 M = some ((), M) := by
  obtain ⟨z, rfl⟩ : ∃ z, Z = z + 1 := ⟨Z - 1, by omega⟩
  unfold rRule
  rw [goesOnE h, cl_some, putsE h, cl_some, l53E h]
  exact rREndE h
theorem VQ.of {Q Q' : Nat → Int32} {x : Nat} (h : VQ Q) (hx : x < 6) (hW : VW Q') (he : ∀ i, i < 320 → Q' i = Q i) (hy : ∀ y, y < 6 → y ≠ x → RuleOK Q' y) (hr : RuleOK Q' x) : VQ Q' := by
  obtain ⟨_, ⟨c1, c2, c3⟩, hR, hL⟩ := h
  have e0 : cN Q' = cN Q := pn_c (he 0 (by decide))
  have eM : ∀ y, y < 6 → cM Q' y = cM Q y := fun y hy => by
    unfold cM
    rw [if_pos hy, if_pos hy]
    exact pn_c (he _ (by omega))
  refine ⟨hW, ⟨by rw [e0]; exact c1, by rw [e0, pn_c (he 2 (by decide))]; exact c2, by rw [pn_c (he 3 (by decide))]; exact c3⟩, fun y hy a ha => ?_, fun y hy' => ?_⟩
  · rw [eM y hy]
    obtain ⟨h1, h2⟩ := hR y hy a ha
    exact ⟨fun z => (h1 z).of (he 0 (by decide)) (fun i hi => he i (by omega)), fun z => (h2 z).of (fun i hi => he i (by omega)) (fun i hi => he i (by omega))⟩
  · by_cases c : y = x
    · rw [c]
      exact hr
    · exact hy y hy' c
theorem rule_sim {Z : Nat} {Mc Mr : Mem} {b : Nat → Nat} {n e : Nat} {Q : Nat → Int32} (hZ : 4000 < Z) (h : GCR b n e Q Mc Mr) (hV : VQ Q) :
    (∃ e' Q' Mc' Mr', f_X4_parseRule Z Mc = some (1, Mc') ∧ f_X12_ruleLine Z Mr = some ((), Mr') ∧ GCR b n e' Q' Mc' Mr' ∧ VQ Q' ∧ e ≤ e' ∧ fr lP Mc Mc' ∧ fQ Mr Mr') ∨
    (∃ c p Mc' Mr', f_X4_parseRule Z Mc = some (0, Mc') ∧ f_X12_ruleLine Z Mr = some ((), Mr') ∧ erC c p Mc' ∧ erR c p Mr' ∧ fr lP Mc Mc' ∧ fQ Mr Mr') := by
  obtain ⟨hc, h0, hw, hr⟩ := h
  have hVV := hV
  obtain ⟨hW, ⟨hN1, hst, hh⟩, hR, hL⟩ := hV
  have hN := hW.N
  have he := hc.2.2
  have le1 := tE_le (b := b) he
  obtain ⟨C1, k1, f1, _, o1⟩ := nextC hZ hc
  obtain ⟨R1, q1, s1, t1⟩ := goesOnR hZ hr
  have le2 := tE_le (b := b) o1.2.2
  have c1 : gI C1 22 0 = nI (cN Q) := by rw [f1.1.I (by decide)]; exact h0.1.1.trans hN.1
  unfold f_X4_parseRule
  rw [ruleLine_eq, k1, cl_some, q1, cl_some]
  by_cases d : sOK b n (tE b n e) Q
  · obtain ⟨C2, k2, f2, g2, o2⟩ := seeStC (Z := Z) o1 c1 d
    have q2 := stHereR (Z := Z) t1 hN.1 d
    have lx := d.lt hN.2 hN1
    generalize hx : tV b n (tE b n e) = x at *
    have x6 : x < 6 := by omega
    have hM := hW.M x x6
    have A2 := (h0.fP f1).fP f2
    have W2 := (hw.fP f1).fP f2
    have ru := A2.ruled x6
    have r320 : gI R1 113 (320 + x) = Q (320 + x) := by rw [t1.2.2.2.1]
    rw [k2, cl_some, if_neg (by decide), bd_eq, g2, bd_eq, q2, cl_some, bd_eq, bd_eq, bd_eq, t1.2.2.1, jn_eq, if_pos (show nI 0 = (0 : Int32) from rfl), show (320 : Int32) = nI 320 from rfl, nI_add, rdI_n (by omega) (by decide), r320]
    try dsimp only
    rcases hL x x6 with ⟨r1, r2, r3⟩ | ⟨r1, r2⟩
    · have r1' : Q (320 + x) = (1 : Int32) := r1
      obtain ⟨C3, k3, f3, o3⟩ := failC (Z := Z) (c := 3) o2
      obtain ⟨R3, q3, s3, t3⟩ := failsR (Z := Z) t1 (c := 3) (by decide) (by decide)
      refine Or.inr ⟨_, _, C3, R3, ?_, ?_, o3, t3, (f1.p.trans f2.p).trans (f3.mono (by decide)), s1.trans s3⟩
      · rw [if_pos (by rw [ru]; exact r1'), show (3 : Int32) = nI 3 from rfl, k3, cl_some, if_pos (by decide)]
      · rw [if_pos r1', show (3 : Int32) = nI 3 from rfl, q3, cl_some]
        exact rRuleE hZ t3
    · have r1' : ¬ Q (320 + x) = (1 : Int32) := by rw [r1]; decide
      rw [if_neg (by rw [ru]; exact r1'), if_neg r1']
      have A3 := A2.updR hW.T x6
      have o3 : okC b n (tE b n e) (sI C2 21 6 (gI C2 21 6 ||| ((1 : Int32) <<< (nI x &&& 31)))) := o2.s (by decide) (by decide)
      have W3 : CQWx (upd Q (320 + x) (nI 1)) x 0 (sI C2 21 6 (gI C2 21 6 ||| ((1 : Int32) <<< (nI x &&& 31)))) := by
        refine ⟨fun y hy hn i hi => ?_, upd_eq, fun i hi => ⟨fun z => absurd z (by omega), fun _ => ⟨?_, ?_⟩⟩⟩
        · rw [gI_sI', if_neg (by decide), upd_ne (by omega), upd_ne (by omega)]
          exact W2 y hy i hi
        · rw [gI_sI', if_neg (by decide), W2 x x6 i hi, if_neg (by rw [r1]; decide)]
        · rw [upd_ne (by omega)]
          have := (hW.1 (326 + (x * 3 + i)) (by omega) (by omega)).1
          rw [r2 i hi] at this
          exact this
      have F3 : fr lP Mc (sI C2 21 6 (gI C2 21 6 ||| ((1 : Int32) <<< (nI x &&& 31)))) := fr_sI (f1.p.trans f2.p) (by decide)
      have V3 : VW (upd Q (320 + x) (nI 1)) := hW.put (by omega) (by rw [mxR x6]; decide)
      have u3 : ∀ i, i ≠ 320 + x → upd Q (320 + x) (nI 1) i = Q i := fun i hi => upd_ne hi
      have u31 : upd Q (320 + x) (nI 1) (320 + x) = nI 1 := upd_eq
      generalize hC3 : sI C2 21 6 (gI C2 21 6 ||| ((1 : Int32) <<< (nI x &&& 31))) = C3 at *
      obtain ⟨C4, k4, f4, _, o4⟩ := nextC hZ o3
      obtain ⟨R4, q4, s4, t4⟩ := goesOnR hZ t1
      have le3 := tE_le (b := b) o3.2.2
      obtain ⟨R5, q5, s5, t5⟩ := putsR (Z := Z) (v := nI 1) t4 (j := 320 + x) (by omega)
      generalize hQ3 : upd Q (320 + x) (nI 1) = Q3 at *
      generalize hE : tE b n (tE b n e) = e4 at *
      have A4 := A3.fP f4
      have W4 := W3.fP f4
      have F4 := F3.trans f4.p
      have G4 := (s1.trans s4).trans s5
      have ra : rRule Z (nI x) R1 = f_X12_ruleLine_L53 Z (nI x) (rREnd Z) Z (nI 0) (nI 0) R5 := by
        unfold rRule
        rw [q4, cl_some, show (320 : Int32) = nI 320 from rfl, nI_add, show (1 : Int32) = nI 1 from rfl, q5, cl_some]
        rfl
      rw [k4, cl_some, ra]
      unfold f_X4_parseWeights
      rw [bd_eq, o4.2.1.1]
      have h8 : Q3 (8 + x) = nI (cM Q x) := (u3 _ (by omega)).trans hM.1
      have hz : ∀ i, i < 3 → pn Q3 (326 + (x * 3 + i)) = 0 := fun i hi => (pn_c (u3 _ (by omega))).trans (r2 i hi)
      have sz : sW3 Q3 x = 0 := by
        unfold sW3
        rw [hz 0 (by decide), hz 1 (by decide), hz 2 (by decide)]
      by_cases c2 : tK b n e4 = 2
      · rw [if_pos (by rw [c2]; rfl)]
        rcases weights_all hZ x6 hM.2 (fun (y16 : Int32) (M17 : Mem) => cl (f_X4_endLine Z M17 y16) (fun v18 M19 => (if v18 &&& 1 = v18 then some (v18, M19) else none))) 3 0 0 e4 Q3 C4 R5 (by decide) (fun _ => c2) (Nat.zero_le _) h8 V3 sz (by decide) o4 A4 W4 t5 with ⟨e6, Q6, S6, C6, R6, k6, q6, g6, V6, a6, l6, z6, u6, le6, F6, G6⟩ | ⟨c6, p6, C6, R6, k6, q6, oC, oR, F6, G6⟩
        · rw [show f_X4_parseWeights_L22 Z (nI x) (fun (y16 : Int32) (M17 : Mem) => cl (f_X4_endLine Z M17 y16) (fun v18 M19 => (if v18 &&& 1 = v18 then some (v18, M19) else none))) (fun (M21 : Mem) => cl (f_X4_fail Z M21 (1 : Int32)) (fun v22 M23 => (if v22 &&& 1 = v22 then some (v22, M23) else none))) Z (10 : Int32) (0 : Int32) C4 = _ from k6 Z (by omega), q6 Z _ (by omega)]
          have FA := F4.trans F6
          have GA := G4.trans G6
          by_cases de : atEnd b n e6 ∧ 10 - S6 = 0
          · have S10 : S6 = 10 := by omega
            have k7 := endC (Z := Z) g6.1 de.1
            have q7 := endsR (Z := Z) (w := 1) g6.2.2.2 de.1 (by decide)
            refine Or.inl ⟨e6, Q6, C6, R6, ?_, ?_, g6, ?_, by omega, FA, GA⟩
            · try dsimp only
              rw [de.2, k7, cl_some, if_pos (by decide), cl_some, if_pos (by decide)]
            · unfold rREnd
              rw [jn_eq, S10, if_pos (show nI 10 = (10 : Int32) from rfl)]
              dsimp only
              rw [q7, cl_some]
            · have e8 : cM Q6 x = cM Q x := by
                unfold cM
                rw [if_pos x6, if_pos x6]
                exact pn_c ((u6 _ (by omega)).trans (u3 _ (by omega)))
              refine hVV.of x6 V6 (fun i hi => (u6 i (by omega)).trans (u3 i (by omega))) (fun y hy hn => ?_) ?_
              · have k : ∀ i, (i = 320 + y ∨ (326 + y * 3 ≤ i ∧ i < 329 + y * 3) ∨ i < 320) → Q6 i = Q i := fun i hi => (u6 i (by omega)).trans (u3 i (by omega))
                have kp : ∀ i, (i = 320 + y ∨ (326 + y * 3 ≤ i ∧ i < 329 + y * 3) ∨ i < 320) → pn Q6 i = pn Q i := fun i hi => pn_c (k i hi)
                have kM : cM Q6 y = cM Q y := by
                  unfold cM
                  rw [if_pos hy, if_pos hy]
                  exact kp _ (by omega)
                rcases hL y hy with ⟨r4, r5, r6⟩ | ⟨r4, r5⟩
                · exact Or.inl ⟨by rw [k _ (by omega)]; exact r4, by rw [kp _ (by omega), kp _ (by omega), kp _ (by omega)]; exact r5, fun a ha hm => by rw [kp _ (by omega)]; exact r6 a ha (by omega)⟩
                · exact Or.inr ⟨by rw [k _ (by omega)]; exact r4, fun a ha => by rw [kp _ (by omega)]; exact r5 a ha⟩
              · refine Or.inl ⟨(u6 _ (by omega)).trans u31, ?_, fun a ha hm => z6 a ha (by omega)⟩
                have : sW3 Q6 x = 10 := by omega
                exact this
          · obtain ⟨C7, k7, f7, o7⟩ := endN (Z := Z) g6.1 (rest := 10 - S6) (by omega) de
            have bad : ∃ w, ¬ (atEnd b n e6 ∧ w ≠ (0 : Int32)) ∧ rREnd Z (nI S6) R6 = cl (f_X12_endsAt Z R6 w) (fun v36 M37 => some ((), M37)) := by
              by_cases s : S6 = 10
              · refine ⟨1, fun z => de ⟨z.1, by omega⟩, ?_⟩
                unfold rREnd
                rw [jn_eq, s, if_pos (show nI 10 = (10 : Int32) from rfl)]
              · refine ⟨0, fun z => z.2 rfl, ?_⟩
                unfold rREnd
                rw [jn_eq, if_neg (show ¬ nI S6 = (10 : Int32) by rw [show (10 : Int32) = nI 10 from rfl, nI_eq (by omega) (by decide)]; exact s)]
            obtain ⟨w, w1, w2⟩ := bad
            obtain ⟨R7, q7, s7, t7⟩ := endsN (Z := Z) (w := w) g6.2.2.2 w1
            refine Or.inr ⟨_, _, C7, R7, ?_, ?_, o7, t7, FA.trans (f7.mono (by decide)), GA.trans s7⟩
            · try dsimp only
              rw [k7, cl_some, if_pos (by decide), cl_some, if_pos (by decide)]
            · rw [w2, q7, cl_some]
        · obtain ⟨w, q6'⟩ := q6 Z (rREnd Z) (by omega)
          refine Or.inr ⟨c6, p6, C6, R6, ?_, ?_, oC, oR, F4.trans F6, G4.trans G6⟩
          · rw [show f_X4_parseWeights_L22 Z (nI x) (fun (y16 : Int32) (M17 : Mem) => cl (f_X4_endLine Z M17 y16) (fun v18 M19 => (if v18 &&& 1 = v18 then some (v18, M19) else none))) (fun (M21 : Mem) => cl (f_X4_fail Z M21 (1 : Int32)) (fun v22 M23 => (if v22 &&& 1 = v22 then some (v22, M23) else none))) Z (10 : Int32) (0 : Int32) C4 = _ from k6 Z (by omega), cl_some, if_pos (by decide)]
          · rw [q6']
            exact rREndE oR
      · have kl := tK_lt (b := b) (n := n) (e := e4)
        obtain ⟨C5, k5, f5, o5⟩ := failC (Z := Z) (c := 1) o4
        obtain ⟨R6, q6, s6, t6⟩ := failsR (Z := Z) t5 (c := 1) (by decide) (by decide)
        refine Or.inr ⟨_, _, C5, R6, ?_, ?_, o5, t6, F4.trans (f5.mono (by decide)), G4.trans s6⟩
        · rw [if_neg (by rw [show (2 : Int32) = nI 2 from rfl, nI_eq (by omega) (by decide)]; exact c2), show (1 : Int32) = nI 1 from rfl, k5, cl_some, if_pos (by decide), cl_some, if_pos (by decide)]
        · obtain ⟨z, rfl⟩ : ∃ z, Z = z + 1 + 1 := ⟨Z - 2, by omega⟩
          rw [l53_b t5 x6 h8 (by omega) (a := 0) (by decide) (fun z => c2 z.1) (Or.inl rfl) q6]
          obtain ⟨w, w1⟩ := rWE (Z := z + 1 + 1) (m := z) (v3 := nI x) (xS := nI 0) (xa := nI 0) (k := rREnd (z + 1 + 1)) t6
          rw [w1]
          exact rREndE t6
  · obtain ⟨C2, k2, f2, o2⟩ := seeStN (Z := Z) o1 c1 d
    obtain ⟨R2, q2, s2, t2⟩ := stHereN (Z := Z) t1 hN.1 d
    refine Or.inr ⟨_, _, C2, R2, ?_, ?_, o2, t2, f1.p.trans (f2.mono (by decide)), s1.trans s2⟩
    · rw [k2, cl_some, if_pos rfl]
    · rw [q2, cl_some, bd_eq, jn_eq, if_neg (er_ne t2)]
      exact rRuleE hZ t2
