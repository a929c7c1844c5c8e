/-! one 'to' of an act line -/
theorem to_sim {Z : Nat} {Mc Mr : Mem} {b : Nat → Nat} {n e r rest : Nat} {Q : Nat → Int32} (hZ : 4000 < Z) (h : GCR b n e Q Mc Mr) (hT : ∀ r, r < 18 → cT Q r ≤ 6) (hr : r < 18) (hN1 : 1 ≤ cN Q) (hN : cN Q ≤ 6) (hQ0 : Q 0 = nI (cN Q)) (hA : ∀ k, k < 108 → Q (86 + k) = nI (pn Q (86 + k)) ∧ pn Q (86 + k) ≤ 100) (hQT : Q (194 + r) = nI (cT Q r)) (hF : ∀ y, y < cN Q → pn Q (86 + (r * 6 + y)) = 0 → cT Q r < 6) (hre : rest ≤ 100) (hw7 : isW b n e 7 = true) (k0 : Int32 → Mem → Option (Int32 × Mem)) :
    (∃ y v e' Mc' R1 Mr', (∀ m x, x ≤ 6 → f_X4_parsePercents_L5 Z (nI r) k0 (kU Z) (m + 1) (nI rest) (nI x) Mc = f_X4_parsePercents_L5 Z (nI r) k0 (kU Z) m (nI (rest - v)) (nI x + (1 : Int32)) Mc') ∧ f_X12_passes Z Mr 7 = some (1, R1) ∧ f_X12_toRead Z R1 (nI r) (nI rest) = some (nI v, Mr') ∧ GCR b n e' (rowT Q r y (cT Q r) v) Mc' Mr' ∧ y < cN Q ∧ pn Q (86 + (r * 6 + y)) = 0 ∧ 1 ≤ v ∧ v ≤ rest ∧ e ≤ e' ∧ fr lP Mc Mc' ∧ fQ Mr Mr') ∨
    (∃ c p Mc' R1 Mr', (∀ m x, x ≤ 6 → f_X4_parsePercents_L5 Z (nI r) k0 (kU Z) (m + 1) (nI rest) (nI x) Mc = some (0, Mc')) ∧ f_X12_passes Z Mr 7 = some (1, R1) ∧ f_X12_toRead Z R1 (nI r) (nI rest) = some (nI 0, Mr') ∧ erC c p Mc' ∧ erR c p Mr' ∧ fr lP Mc Mc' ∧ fQ Mr Mr') := by
  obtain ⟨hc, h0, hw, hr0⟩ := h
  have he := hc.2.2
  have le1 := tE_le (b := b) he
  obtain ⟨C1, k1, f1, _, o1⟩ := nextC hZ hc
  obtain ⟨R1, q1, s1, t1⟩ := passesR hZ hr0 (by decide) hw7
  have le2 := tE_le (b := b) o1.2.2
  have c1 : gI C1 22 0 = nI (cN Q) := by rw [f1.1.I (by decide)]; exact h0.1.1.trans hQ0
  have rQ : gI R1 113 = Q := t1.2.2.2.1
  have m1 : (nI (cN Q) - (1 : Int32)).toInt = (cN Q : Int) - 1 := ltopI (by omega)
  have st : ∀ m x, x ≤ 6 → f_X4_parsePercents_L5 Z (nI r) k0 (kU Z) (m + 1) (nI rest) (nI x) Mc = cl (f_X4_seeState Z C1) (fun v8 M9 => (if v8 = 0 then some ((0 : Int32), M9) else bd (gI M9 (21) 5) (fun v10 => cl (f_X0_percentTo Z M9 (22) (nI r) v10) (fun v11 M12 => (if v11 = 0 then cl (f_X2_advance Z M12) (fun v13 M14 => cl (f_X4_takeNumber Z M14 (1 : Int32) (nI rest)) (fun v15 M16 => (if v15 = 0 then some ((0 : Int32), M16) else bd (gI M16 (21) 5) (fun v17 => cl (f_X0_tell Z M16 (22) (nI r) v10 v17) (fun v18 M19 => bd (gI M19 (21) 5) (fun v20 => f_X4_parsePercents_L5 Z (nI r) k0 (kU Z) m (nI rest - v20) (nI x + (1 : Int32)) M19)))))) else kU Z M12))))) := fun m x hx => by
    rw [f_X4_parsePercents_L5, if_neg (by rw [show (6 : Int32) = nI 6 from rfl, nI_ilt (by decide) (by omega)]; omega), isWordC hZ hc.1 hc.2.1 he (by decide), cl_some, hw7, if_neg (by decide), k1, cl_some]
  have rs : f_X12_stateHere Z R1 = cl (f_X12_numberHere Z R1 (nI 0) (nI (cN Q) - 1)) (fun v2 M3 => some (v2, M3)) := by
    unfold f_X12_stateHere
    rw [show (0 : Int32) = nI 0 from rfl, rdI_n (by decide) (by decide), rQ, hQ0]
  by_cases d : tK b n (tE b n e) = 2 ∧ nOK (tV b n (tE b n e)) 0 (nI (cN Q) - 1)
  · obtain ⟨C2, k2, f2, g2, o2⟩ := seeC (Z := Z) o1 (lo := 0) (by decide) d.1 d.2
    have q2 := numR (Z := Z) t1 (lo := 0) (by decide) d.1 d.2
    have ly : tV b n (tE b n e) < cN Q := by
      have := d.2.2
      omega
    generalize hy : tV b n (tE b n e) = y at *
    obtain ⟨a1, a2⟩ := hA (r * 6 + y) (by omega)
    have am : f_X0_percentTo Z C2 22 (nI r) (nI y) = some (nI (pn Q (86 + (r * 6 + y))), C2) := by
      unfold f_X0_percentTo
      rw [i6, nI_mul, nI_add, rdI_n (by omega) (by decide), ((h0.fP f1).fP f2).1.2.2.2.2.2.1 _ (by omega), a1]
    have ix : ((86 : Int32) + (6 : Int32) * nI r) + nI y = nI (86 + (r * 6 + y)) := by
      rw [show (86 : Int32) = nI 86 from rfl, show (6 : Int32) = nI 6 from rfl, nI_mul, nI_add, nI_add, mc6, Nat.add_assoc]
    have rQ2 : gI R1 113 (86 + (r * 6 + y)) = nI (pn Q (86 + (r * 6 + y))) := by rw [rQ]; exact a1
    have cl0 : ∀ m x, x ≤ 6 → f_X4_parsePercents_L5 Z (nI r) k0 (kU Z) (m + 1) (nI rest) (nI x) Mc = (if nI (pn Q (86 + (r * 6 + y))) = 0 then cl (f_X2_advance Z C2) (fun v13 M14 => cl (f_X4_takeNumber Z M14 (1 : Int32) (nI rest)) (fun v15 M16 => (if v15 = 0 then some ((0 : Int32), M16) else bd (gI M16 (21) 5) (fun v17 => cl (f_X0_tell Z M16 (22) (nI r) (nI y) v17) (fun v18 M19 => bd (gI M19 (21) 5) (fun v20 => f_X4_parsePercents_L5 Z (nI r) k0 (kU Z) m (nI rest - v20) (nI x + (1 : Int32)) M19)))))) else kU Z C2) := fun m x hx => by
      rw [st m x hx]
      unfold f_X4_seeState
      rw [bd_eq, c1, show f_X4_seeNumber Z C1 0 (nI (cN Q) - 1) = some (1, C2) from k2, cl_some, if_pos (by decide), cl_some, if_neg (by decide), bd_eq, g2, am, cl_some]
    by_cases z : pn Q (86 + (r * 6 + y)) = 0
    · obtain ⟨C3, k3, f3, _, o3⟩ := nextC hZ o2
      obtain ⟨R3, q3, s3, t3⟩ := goesOnR hZ t1
      have le3 := tE_le (b := b) o3.2.2
      have ht := hF y ly z
      by_cases d2 : tK b n (tE b n (tE b n e)) = 2 ∧ nOK (tV b n (tE b n (tE b n e))) 1 (nI rest)
      · obtain ⟨C4, k4, f4, g4, o4⟩ := takeC hZ o3 (lo := 1) (by decide) d2.1 d2.2
        obtain ⟨R4, q4, s4, t4⟩ := takesR hZ t3 (lo := 1) (by decide) d2.1 d2.2
        have lv2 : tV b n (tE b n (tE b n e)) ≤ rest := by
          have := d2.2.2
          rw [nI_toInt (by omega)] at this
          omega
        have lv1 := d2.2.1
        generalize hv : tV b n (tE b n (tE b n e)) = v at *
        generalize hct : cT Q r = t at *
        have q4' : f_X12_takes Z R3 1 (nI rest) = some (nI v, R4) := q4
        obtain ⟨R5, q5, s5, t5⟩ := putsR (Z := Z) (v := nI v) t4 (j := 86 + (r * 6 + y)) (by omega)
        obtain ⟨R6, q6, s6, t6⟩ := putsR (Z := Z) (v := nI y) t5 (j := 212 + (r * 6 + t)) (by omega)
        have r5 : gI R5 113 (194 + r) = nI t := by rw [t5.2.2.2.1, upd_ne (by omega)]; exact hQT
        have r6 : gI R6 113 (194 + r) = nI t := by rw [t6.2.2.2.1, upd_ne (by omega), upd_ne (by omega)]; exact hQT
        have iy : ((212 : Int32) + (6 : Int32) * nI r) + (nI t - nI t / (6 : Int32) * (6 : Int32)) = nI (212 + (r * 6 + t)) := by
          rw [show (212 : Int32) = nI 212 from rfl, show (6 : Int32) = nI 6 from rfl, nI_mod (by omega) (by decide), show t % 6 = t by omega, nI_mul, nI_add, nI_add, mc6, Nat.add_assoc]
        have A0 := (((h0.fP f1).fP f2).fP f3).fP f4
        have A := A0.tell (r := r) (y := y) (t := t) (v := v) hT hr (by omega) ht hct
        have c28 : gI C4 28 r = nI t := by
          rw [show (28 : Nat) = 22 + 6 from rfl, A0.1.2.2.2.2.2.2.1 r hr]
          exact hQT
        have tl : f_X0_tell Z C4 22 (nI r) (nI y) (nI v) = some ((), sI (sI (sI C4 27 (r * 6 + t) (nI y)) 28 r (nI (t + 1))) 26 (r * 6 + y) (nI v)) := by
          unfold f_X0_tell
          rw [rdI_n hr (by decide), c28, if_neg (by rw [show (6 : Int32) = nI 6 from rfl, nI_ile (by decide) (by omega)]; omega), rdI_n hr (by decide), c28, i6, nI_mul, nI_add, wrI_n (by omega) (by decide), rdI_n hr (by decide), gI_sI, if_neg (fun z => absurd z.1 (by decide)), c28, i1, nI_add, wrI_n hr (by decide), nI_add, wrI_n (by omega) (by decide)]
        have W : CQW (rowT Q r y t v) (sI (sI (sI C4 27 (r * 6 + t) (nI y)) 28 r (nI (t + 1))) 26 (r * 6 + y) (nI v)) := fun x hx a ha => by
          rw [gI_sI', if_neg (by decide), gI_sI', if_neg (by decide), gI_sI', if_neg (by decide), rowT_ne (by omega) (by omega) (by omega), rowT_ne (by omega) (by omega) (by omega)]
          exact ((((hw.fP f1).fP f2).fP f3).fP f4) x hx a ha
        refine Or.inl ⟨y, v, tE b n (tE b n (tE b n e)), _, R1, sI R6 113 (194 + r) (nI (t + 1)), fun m x hx => ?_, q1, ?_, ⟨((o4.s (by decide) (by decide)).s (by decide) (by decide)).s (by decide) (by decide), A, W, t6.w⟩, ly, z, lv1, lv2, by omega, fr_sI (fr_sI (fr_sI (((f1.p.trans f2.p).trans f3.p).trans f4.p) (by decide)) (by decide)) (by decide), ((((s1.trans s3).trans s4).trans s5).trans s6).w⟩
        · rw [cl0 m x hx, if_pos (by rw [z]; rfl), k3, cl_some, show f_X4_takeNumber Z C3 1 (nI rest) = some (1, C4) from k4, cl_some, if_neg (by decide), bd_eq, g4, tl, cl_some, bd_eq, gI_sI, if_neg (fun z => absurd z.1 (by decide)), gI_sI, if_neg (fun z => absurd z.1 (by decide)), gI_sI, if_neg (fun z => absurd z.1 (by decide)), g4, nI_sub lv2]
        · unfold f_X12_toRead
          rw [rs, q2, cl_some, cl_some, bd_eq, t1.2.2.1, jn_eq, if_pos (show nI 0 = (0 : Int32) from rfl)]
          dsimp only
          rw [bd_eq, jn_eq, if_pos (show nI 0 = (0 : Int32) from rfl), ix, rdI_n (by omega) (by decide), rQ2, if_pos (by rw [z]; decide)]
          dsimp only
          rw [q3, cl_some, q4', cl_some, q5, cl_some, show (194 : Int32) = nI 194 from rfl, nI_add, rdI_n (by omega) (by decide), r5, nzI_n (by decide), iy, q6, cl_some, rdI_n (by omega) (by decide), r6, bd_eq, t6.2.2.1, jn_eq, if_pos (show nI 0 = (0 : Int32) from rfl)]
          dsimp only
          rw [wrI_n (by omega) (by decide), bd_eq, gI_sI, if_neg (show ¬ ((108 : Nat) = 113 ∧ 19 = 194 + r) from fun z => absurd z.1 (by decide)), t6.2.2.1, if_pos (show nI 0 = (0 : Int32) from rfl), show nI t + (1 : Int32) = nI (t + 1) from nI_add t 1]
      · obtain ⟨C4, k4, f4, o4⟩ := takeN (Z := Z) o3 (lo := 1) (by decide) d2
        obtain ⟨R4, q4, s4, t4⟩ := takesN (Z := Z) t3 (lo := 1) (by decide) d2
        have q4' : f_X12_takes Z R3 1 (nI rest) = some (nI 1, R4) := q4
        have w4 := t4.w (k := 194 + r) (v := gI R4 113 (194 + r) + 0)
        refine Or.inr ⟨_, _, C4, R1, _, fun m x hx => ?_, q1, ?_, o4, w4, ((f1.p.trans f2.p).trans f3.p).trans (f4.mono (by decide)), ((s1.trans s3).trans s4).w⟩
        · rw [cl0 m x hx, if_pos (by rw [z]; rfl), k3, cl_some, show f_X4_takeNumber Z C3 1 (nI rest) = some (0, C4) from k4, cl_some, if_pos rfl]
        · unfold f_X12_toRead
          rw [rs, q2, cl_some, cl_some, bd_eq, t1.2.2.1, jn_eq, if_pos (show nI 0 = (0 : Int32) from rfl)]
          dsimp only
          rw [bd_eq, jn_eq, if_pos (show nI 0 = (0 : Int32) from rfl), ix, rdI_n (by omega) (by decide), rQ2, if_pos (by rw [z]; decide)]
          dsimp only
          rw [q3, cl_some, q4', cl_some, putsE t4, cl_some, show (194 : Int32) = nI 194 from rfl, nI_add, rdI_n (by omega) (by decide), nzI_n (by decide), putsE t4, cl_some, rdI_n (by omega) (by decide), bd_eq, jn_eq, if_neg (er_ne t4)]
          dsimp only
          rw [wrI_n (by omega) (by decide), bd_eq, if_neg (er_ne w4)]
          rfl
    · obtain ⟨C3, k3, f3, o3⟩ := failC (Z := Z) (c := 3) o2
      obtain ⟨R3, q3, s3, t3⟩ := failsR (Z := Z) t1 (c := 3) (by decide) (by decide)
      have w3 := t3.w (k := 194 + r) (v := gI R3 113 (194 + r) + 0)
      refine Or.inr ⟨_, _, C3, R1, _, fun m x hx => ?_, q1, ?_, o3, w3, (f1.p.trans f2.p).trans (f3.mono (by decide)), (s1.trans s3).w⟩
      · rw [cl0 m x hx, if_neg (by rw [show (0 : Int32) = nI 0 from rfl, nI_eq (by omega) (by decide)]; exact z)]
        unfold kU
        rw [show (3 : Int32) = nI 3 from rfl, k3, cl_some, if_pos (by decide)]
      · unfold f_X12_toRead
        rw [rs, q2, cl_some, cl_some, bd_eq, t1.2.2.1, jn_eq, if_pos (show nI 0 = (0 : Int32) from rfl)]
        dsimp only
        rw [bd_eq, jn_eq, if_pos (show nI 0 = (0 : Int32) from rfl), ix, rdI_n (by omega) (by decide), rQ2, if_neg (by rw [show (0 : Int32) = nI 0 from rfl, nI_ile (by omega) (by decide)]; omega), show (3 : Int32) = nI 3 from rfl, q3, cl_some]
        dsimp only
        rw [goesOnE t3, cl_some, takesE t3, cl_some, putsE t3, cl_some, show (194 : Int32) = nI 194 from rfl, nI_add, rdI_n (by omega) (by decide), nzI_n (by decide), putsE t3, cl_some, rdI_n (by omega) (by decide), bd_eq, jn_eq, if_neg (er_ne t3)]
        dsimp only
        rw [wrI_n (by omega) (by decide), bd_eq, if_neg (er_ne w3)]
        rfl
  · obtain ⟨C2, k2, f2, o2⟩ := seeN (Z := Z) o1 (lo := 0) (by decide) d
    obtain ⟨R2, q2, s2, t2⟩ := numN (Z := Z) t1 (lo := 0) (by decide) d
    refine Or.inr ⟨_, _, C2, R1, _, fun m x hx => ?_, q1, ?_, o2, t2.w (k := 194 + r) (v := gI R2 113 (194 + r) + 0), f1.p.trans (f2.mono (by decide)), (s1.trans s2).w⟩
    · rw [st m x hx]
      unfold f_X4_seeState
      rw [bd_eq, c1, show f_X4_seeNumber Z C1 0 (nI (cN Q) - 1) = some (0, C2) from k2, cl_some, if_pos (by decide), cl_some, if_pos rfl]
    · have w2 := t2.w (k := 194 + r) (v := gI R2 113 (194 + r) + 0)
      unfold f_X12_toRead
      rw [rs, q2, cl_some, cl_some, bd_eq, jn_eq, if_neg (er_ne t2)]
      dsimp only
      rw [bd_eq, jn_eq, if_neg (er_ne t2)]
      dsimp only
      rw [goesOnE t2, cl_some, takesE t2, cl_some, putsE t2, cl_some, show (194 : Int32) = nI 194 from rfl, nI_add, rdI_n (by omega) (by decide), nzI_n (by decide), putsE t2, cl_some, rdI_n (by omega) (by decide), bd_eq, jn_eq, if_neg (er_ne t2)]
      dsimp only
      rw [wrI_n (by omega) (by decide), bd_eq, if_neg (er_ne w2)]
      rfl
