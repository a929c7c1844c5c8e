/-! budget and start lines -/
theorem CQ0.updL {Q : Nat → Int32} {M : Mem} {j : Nat} {v : Int32} (h : CQ0 Q M) (hT : ∀ r, r < 18 → cT Q r ≤ 6) (hj : j < 3) : CQ0 (upd Q (5 + j) v) (sI M 32 j v) := by
  obtain ⟨h1, h2, h3, h4, h5⟩ := h
  have e : ∀ o, o ≠ 32 → gI (sI M 32 j v) o = gI M o := fun o ho => by rw [gI_sI', if_neg ho]
  refine ⟨(h1.updO hT (by omega)).at (fun i hi => e _ (by omega)), by rw [e 29 (by decide), upd_ne (by omega), upd_ne (by omega), upd_ne (by omega)]; exact h2, fun b hb => ?_, by rw [e 31 (by decide)]; exact h4, ?_⟩
  · rw [gI_sI]
    by_cases c : b = j
    · rw [if_pos ⟨rfl, c⟩, c, upd_eq]
    · rw [if_neg (fun z => c z.2), upd_ne (by omega)]
      exact h3 b hb
  · obtain ⟨q, q1, q2, q3⟩ := h5
    exact ⟨q, q1, by rw [e 21 (by decide)]; exact q2, fun x hx => by rw [upd_ne (by omega)]; exact q3 x hx⟩
theorem erR.w {c p k : Nat} {v : Int32} {M : Mem} (h : erR c p M) : erR c p (sI M 113 k v) := by
  unfold erR
  rw [gI_sI, if_neg (fun z => absurd z.1 (by decide)), gI_sI, if_neg (fun z => absurd z.1 (by decide))]
  exact h
theorem okR.w {b : Nat → Nat} {n e k : Nat} {v : Int32} {Q : Nat → Int32} {M : Mem} (h : okR b n e Q M) : okR b n e (upd Q k v) (sI M 113 k v) := by
  obtain ⟨hB, hT, h19, hQ, he⟩ := h
  have f : fr [113] M (sI M 113 k v) := fr_sI fr.rfl (by decide)
  refine ⟨?_, ?_, by rw [f.I (by decide)]; exact h19, by rw [gI_sI', if_pos rfl, hQ], he⟩
  · unfold BR
    rw [f.I (by decide), f.I (by decide)]
    exact hB
  · unfold TR
    rw [f.I (by decide), f.I (by decide)]
    exact hT
theorem tE_le {b : Nat → Nat} {n e : Nat} (he : e ≤ n) : e ≤ tE b n e := Nat.le_trans (tA_ok he).1 (tE_ok he).1
theorem budget_sim {Z : Nat} {Mc Mr : Mem} {b : Nat → Nat} {n e : Nat} {Q : Nat → Int32} (hZ : 4000 < Z) (h : GCR b n e Q Mc Mr) (hT : ∀ r, r < 18 → cT Q r ≤ 6) (hb : cB Q ≤ 3) (hb1 : Q 1 = nI (cB Q)) :
    (∃ e' l Mc' Mr', f_X4_parseBudget Z Mc = some (1, Mc') ∧ f_X12_budgetLine Z Mr = some ((), Mr') ∧ GCR b n e' (upd (upd Q (5 + cB Q) (nI l)) 1 (nI (cB Q + 1))) Mc' Mr' ∧ cB Q < 3 ∧ l ≤ 9999 ∧ e ≤ e' ∧ fr lP Mc Mc' ∧ fQ Mr Mr') ∨
    (∃ c p Mc' Mr', f_X4_parseBudget Z Mc = some (0, Mc') ∧ f_X12_budgetLine Z Mr = some ((), Mr') ∧ erC c p Mc' ∧ erR c p Mr' ∧ fr lP Mc Mc' ∧ fQ Mr Mr') := by
  obtain ⟨hc, h0, hw, hr⟩ := h
  have he := hc.2.2
  have c1 : gI Mc 22 1 = nI (cB Q) := h0.1.2.1.trans hb1
  have r1 : gI Mr 113 1 = nI (cB Q) := by rw [hr.2.2.2.1]; exact hb1
  have e0n : (0 : Int32) = nI 0 := rfl
  -- the reference behind a first error
  have bad : ∀ {c p : Nat} {M : Mem}, erR c p M → ∃ M', cl (f_X12_goesOn Z M) (fun v3 M4 => cl (f_X12_takes Z M4 (0 : Int32) (9999 : Int32)) (fun v5 M6 => rdI M6 113 344 (1 : Int32) (fun v7 => cl (f_X12_puts Z M6 ((5 : Int32) + v7) v5) (fun v8 M9 => rdI M9 113 344 (1 : Int32) (fun v10 => bd (gI M9 (108) 19) (fun v11 => (if v11 = 0 then wrI M9 113 344 (1 : Int32) (v10 + (1 : Int32)) (fun M13 => some ((), M13)) else wrI M9 113 344 (1 : Int32) (v10 + (0 : Int32)) (fun M12 => some ((), M12))))))))) = some ((), M') ∧ fQ M M' ∧ erR c p M' := fun {c p M} hE => by
    rw [goesOnE hE, cl_some, takesE hE, cl_some, show (1 : Int32) = nI 1 from rfl, rdI_n (by decide) (by decide), putsE hE, cl_some, rdI_n (by decide) (by decide), bd_eq, if_neg (er_ne hE), wrI_n (by decide) (by decide)]
    exact ⟨_, rfl, fQ.rfl.w, hE.w⟩
  unfold f_X4_parseBudget f_X12_budgetLine
  rw [bd_eq, c1, show (1 : Int32) = nI 1 from rfl, rdI_n (by decide) (by decide), r1, jn_eq]
  by_cases c : cB Q < 3
  · obtain ⟨C1, k1, f1, _, o1⟩ := nextC hZ hc
    obtain ⟨R1, q1, s1, t1⟩ := goesOnR hZ hr
    rw [if_pos (by rw [show (3 : Int32) = nI 3 from rfl, nI_ilt (by omega) (by decide)]; exact c), k1, cl_some, if_neg (by rw [show (3 : Int32) = nI 3 from rfl, nI_eq (by omega) (by decide)]; omega)]
    dsimp only
    rw [q1, cl_some]
    by_cases d : tK b n (tE b n e) = 2 ∧ nOK (tV b n (tE b n e)) 0 9999
    · obtain ⟨C2, k2, f2, g2, o2⟩ := takeC hZ o1 (lo := 0) (by decide) d.1 d.2
      obtain ⟨R2, q2, s2, t2⟩ := takesR hZ t1 (lo := 0) (by decide) d.1 d.2
      have lv : tV b n (tE b n e) ≤ 9999 := by
        have := d.2.2
        have e6 : (9999 : Int32).toInt = 9999 := by decide
        omega
      generalize hl : tV b n (tE b n e) = l at *
      obtain ⟨R3, q3, s3, t3⟩ := putsR (Z := Z) (v := nI l) t2 (j := 5 + cB Q) (by omega)
      have c2 : gI C2 22 1 = nI (cB Q) := by rw [f2.1.I (by decide), f1.1.I (by decide)]; exact c1
      have A2 := ((h0.fP f1).fP f2).updL (j := cB Q) (v := nI l) hT c
      have W2 : CQW (upd Q (5 + cB Q) (nI l)) (sI C2 32 (cB Q) (nI l)) := ((hw.fP f1).fP f2).updL (by omega) (by rw [gI_sI', if_neg (by decide)])
      have T2 : ∀ r, r < 18 → cT (upd Q (5 + cB Q) (nI l)) r ≤ 6 := fun r hr => by rw [cT_upd (by omega)]; exact hT r hr
      have o3 : okC b n (tE b n (tE b n e)) (sI C2 32 (cB Q) (nI l)) := o2.s (by decide) (by decide)
      have c3 : gI (sI C2 32 (cB Q) (nI l)) 22 1 = nI (cB Q) := by rw [gI_sI, if_neg (fun z => absurd z.1 (by decide))]; exact c2
      have F3 : fr lP Mc (sI C2 32 (cB Q) (nI l)) := fr_sI (f1.p.trans f2.p) (by decide)
      have r3 : gI R3 113 1 = nI (cB Q) := by
        rw [t3.2.2.2.1, upd_ne (by omega)]
        exact hb1
      have le1 := tE_le (b := b) he
      have le2 := tE_le (b := b) o1.2.2
      refine Or.inl ⟨tE b n (tE b n e), l, sI (sI C2 32 (cB Q) (nI l)) 22 1 (nI (cB Q + 1)), sI R3 113 1 (nI (cB Q + 1)), ?_, ?_, ⟨o3.s (by decide) (by decide), A2.upd01 T2 (by decide), W2.updL (by decide) (by rw [gI_sI', if_neg (by decide)]), t3.w⟩, c, lv, by omega, fr_sI F3 (by decide), ((s1.trans s2).trans s3).w⟩
      · rw [show f_X4_takeNumber Z C1 0 9999 = f_X4_takeNumber Z C1 (nI 0) 9999 from rfl, k2, cl_some, if_neg (by decide), bd_eq, c2, bd_eq, g2, wrI_n (by omega) (by decide), bd_eq, c3, bd_eq, nI_add]
      · rw [show f_X12_takes Z R1 0 9999 = f_X12_takes Z R1 (nI 0) 9999 from rfl, q2, cl_some, rdI_n (by decide) (by decide), t2.2.2.2.1, hb1, show (5 : Int32) = nI 5 from rfl, nI_add, q3, cl_some, rdI_n (by decide) (by decide), r3, bd_eq, t3.2.2.1, if_pos (show nI 0 = (0 : Int32) from rfl), wrI_n (by decide) (by decide), nI_add]
    · obtain ⟨C2, k2, f2, o2⟩ := takeN (Z := Z) o1 (lo := 0) (by decide) d
      obtain ⟨R2, q2, s2, t2⟩ := takesN (Z := Z) t1 (lo := 0) (by decide) d
      refine Or.inr ⟨_, _, C2, sI R2 113 1 (gI R2 113 1 + 0), ?_, ?_, o2, t2.w, f1.p.trans (f2.mono (by decide)), (s1.trans s2).w⟩
      · rw [show f_X4_takeNumber Z C1 0 9999 = f_X4_takeNumber Z C1 (nI 0) 9999 from rfl, k2, cl_some, if_pos rfl]
      · rw [show f_X12_takes Z R1 0 9999 = f_X12_takes Z R1 (nI 0) 9999 from rfl, q2, cl_some, rdI_n (by decide) (by decide), putsE t2, cl_some, rdI_n (by decide) (by decide), bd_eq, if_neg (er_ne t2), wrI_n (by decide) (by decide)]
  · have e3 : cB Q = 3 := by omega
    obtain ⟨C1, k1, f1, o1⟩ := failC (Z := Z) (c := 4) hc
    obtain ⟨R1, q1, s1, t1⟩ := failsR (Z := Z) hr (c := 4) (by decide) (by decide)
    obtain ⟨R2, q2, s2, t2⟩ := bad t1
    refine Or.inr ⟨_, _, C1, R2, ?_, ?_, o1, t2, f1.mono (by decide), s1.trans s2⟩
    · rw [if_neg (by rw [show (3 : Int32) = nI 3 from rfl, nI_ilt (by omega) (by decide)]; exact c), show (4 : Int32) = nI 4 from rfl, k1, cl_some, if_pos (by decide)]
    · rw [if_pos (by rw [e3]; rfl), show (4 : Int32) = nI 4 from rfl, q1, cl_some]
      exact q2
theorem start_sim {Z : Nat} {Mc Mr : Mem} {b : Nat → Nat} {n e : Nat} {Q : Nat → Int32} (hZ : 4000 < Z) (h : GCR b n e Q Mc Mr) (hT : ∀ r, r < 18 → cT Q r ≤ 6) (hN1 : 1 ≤ cN Q) (hN : cN Q ≤ 6) (hQ0 : Q 0 = nI (cN Q)) (hw9 : isW b n e 9 = true) :
    (∃ e' x Mc' Mr', f_X4_parseStart Z Mc = some (1, Mc') ∧ f_X12_startLine Z Mr = some ((), Mr') ∧ GCR b n e' (upd Q 2 (nI x)) Mc' Mr' ∧ x < cN Q ∧ e ≤ e' ∧ fr lP Mc Mc' ∧ fQ Mr Mr') ∨
    (∃ c p Mc' Mr', f_X4_parseStart Z Mc = some (0, Mc') ∧ f_X12_startLine Z Mr = some ((), Mr') ∧ erC c p Mc' ∧ erR c p Mr' ∧ fr lP Mc Mc' ∧ fQ Mr Mr') := by
  obtain ⟨hc, h0, hw, hr⟩ := h
  have he := hc.2.2
  have le1 := tE_le (b := b) he
  obtain ⟨C1, k1, f1, o1⟩ := takeWordC hZ hc (by decide) hw9
  obtain ⟨R1, q1, s1, t1⟩ := goesOnR hZ hr
  have le2 := tE_le (b := b) o1.2.2
  have c1 : gI C1 22 0 = nI (cN Q) := by rw [f1.1.I (by decide)]; exact h0.1.1.trans hQ0
  have m1 : (nI (cN Q) - (1 : Int32)).toInt = (cN Q : Int) - 1 := ltopI (by omega)
  unfold f_X4_parseStart f_X12_startLine
  rw [k1, cl_some, if_neg (by decide), q1, cl_some, show (0 : Int32) = nI 0 from rfl, rdI_n (by decide) (by decide), t1.2.2.2.1, hQ0]
  unfold f_X4_seeState
  rw [bd_eq, c1]
  by_cases d : tK b n (tE b n e) = 2 ∧ nOK (tV b n (tE b n e)) 0 (nI (cN Q) - 1)
  · obtain ⟨C2, k2, f2, g2, o2⟩ := seeC (Z := Z) o1 (lo := 0) (by decide) d.1 d.2
    obtain ⟨R2, q2, s2, t2⟩ := takesR hZ t1 (lo := 0) (by decide) d.1 d.2
    have lv : tV b n (tE b n e) < cN Q := by
      have := d.2.2
      omega
    generalize hl : tV b n (tE b n e) = x at *
    obtain ⟨R3, q3, s3, t3⟩ := putsR (Z := Z) (v := nI x) t2 (j := 2) (by decide)
    have A2 := ((h0.fP f1).fP f2).updS (j := 2) (v := nI x) hT (by decide)
    have W2 : CQW (upd Q 2 (nI x)) (sI C2 29 3 (nI x)) := ((hw.fP f1).fP f2).updL (by decide) (by rw [gI_sI', if_neg (by decide)])
    have o3 : okC b n (tE b n e) (sI C2 29 3 (nI x)) := o2.s (by decide) (by decide)
    obtain ⟨C4, k4, f4, _, o4⟩ := nextC hZ o3
    refine Or.inl ⟨tE b n (tE b n e), x, C4, R3, ?_, ?_, ⟨o4, A2.fP f4, W2.fP f4, t3⟩, lv, by omega, (fr_sI (f1.p.trans f2.p) (by decide)).trans f4.p, (s1.trans s2).trans s3⟩
    · rw [show f_X4_seeNumber Z C1 0 (nI (cN Q) - 1) = some (1, C2) from k2, cl_some, if_pos (by decide), cl_some, if_neg (by decide), bd_eq, g2, bd_eq, k4, cl_some]
    · rw [q2, cl_some, show (2 : Int32) = nI 2 from rfl, q3, cl_some]
  · obtain ⟨C2, k2, f2, o2⟩ := seeN (Z := Z) o1 (lo := 0) (by decide) d
    obtain ⟨R2, q2, s2, t2⟩ := takesN (Z := Z) t1 (lo := 0) (by decide) d
    refine Or.inr ⟨_, _, C2, R2, ?_, ?_, o2, t2, f1.p.trans (f2.mono (by decide)), s1.trans s2⟩
    · rw [show f_X4_seeNumber Z C1 0 (nI (cN Q) - 1) = some (0, C2) from k2, cl_some, if_pos (by decide), cl_some, if_pos (by decide)]
    · rw [q2, cl_some, putsE t2, cl_some]
