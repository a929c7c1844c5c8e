/-! one 'uses' of an act line -/
def kU (Z : Nat) (M25 : Mem) : Option (Int32 × Mem) := cl (f_X4_fail Z M25 (3 : Int32)) (fun v26 M27 => (if v26 &&& 1 = v26 then some (v26, M27) else none))
theorem uses_sim {Z : Nat} {Mc Mr : Mem} {b : Nat → Nat} {n e r : Nat} {Q : Nat → Int32} (hZ : 4000 < Z) (h : GCR b n e Q Mc Mr) (hT : ∀ r, r < 18 → cT Q r ≤ 6) (hr : r < 18) (hB : cB Q ≤ 3) (hQ1 : Q 1 = nI (cB Q)) (hA : ∀ k, k < 54 → Q (32 + k) = nI (pn Q (32 + k)) ∧ pn Q (32 + k) ≤ 99) (hw6 : isW b n e 6 = true) :
    (∃ bg v e' Mc' R1 Mr', (∀ m x, x ≤ 3 → f_X4_parseUses_L2 Z (nI r) (kU Z) (m + 1) (nI x) Mc = f_X4_parseUses_L2 Z (nI r) (kU Z) m (nI x + (1 : Int32)) Mc') ∧ f_X12_passes Z Mr 6 = some (1, R1) ∧ f_X12_usesRead Z R1 (nI r) = some ((), Mr') ∧ GCR b n e' (upd Q (32 + (r * 3 + bg)) (nI v)) Mc' Mr' ∧ bg < cB Q ∧ pn Q (32 + (r * 3 + bg)) = 0 ∧ 1 ≤ v ∧ v ≤ 99 ∧ e ≤ e' ∧ fr lP Mc Mc' ∧ fQ Mr Mr') ∨
    (∃ c p Mc' R1 Mr', (∀ m x, x ≤ 3 → f_X4_parseUses_L2 Z (nI r) (kU Z) (m + 1) (nI x) Mc = some (0, Mc')) ∧ f_X12_passes Z Mr 6 = some (1, R1) ∧ f_X12_usesRead Z R1 (nI r) = some ((), Mr') ∧ erC c p Mc' ∧ erR c p Mr' ∧ fr lP Mc Mc' ∧ fQ Mr Mr') := by
  obtain ⟨hc, h0, hw, hr0⟩ := h
  have he := hc.2.2
  have le1 := tE_le (b := b) he
  obtain ⟨C1, k1, f1, _, o1⟩ := nextC hZ hc
  obtain ⟨R1, q1, s1, t1⟩ := passesR hZ hr0 (by decide) hw6
  have le2 := tE_le (b := b) o1.2.2
  have c1 : gI C1 22 1 = nI (cB Q) := by rw [f1.1.I (by decide)]; exact h0.1.2.1.trans hQ1
  have rQ : gI R1 113 = Q := t1.2.2.2.1
  have m1 : (nI (cB Q) - (1 : Int32)).toInt = (cB Q : Int) - 1 := ltopI (by omega)
  have st : ∀ m x, x ≤ 3 → f_X4_parseUses_L2 Z (nI r) (kU Z) (m + 1) (nI x) Mc = cl (f_X4_seeNumber Z C1 (nI 0) (nI (cB Q) - (1 : Int32))) (fun v8 M9 => (if v8 = 0 then some ((0 : Int32), M9) else bd (gI M9 (21) 5) (fun v10 => cl (f_X0_amountOf Z M9 (22) (nI r) v10) (fun v11 M12 => (if v11 = 0 then cl (f_X2_advance Z M12) (fun v13 M14 => cl (f_X4_takeNumber Z M14 (1 : Int32) (99 : Int32)) (fun v15 M16 => (if v15 = 0 then some ((0 : Int32), M16) else bd (gI M16 (21) 5) (fun v17 => wrI M16 25 54 ((nI r * (3 : Int32)) + v10) v17 (fun M18 => f_X4_parseUses_L2 Z (nI r) (kU Z) m (nI x + (1 : Int32)) M18))))) else kU Z M12))))) := fun m x hx => by
    rw [f_X4_parseUses_L2, if_neg (by rw [show (3 : Int32) = nI 3 from rfl, nI_ilt (by decide) (by omega)]; omega), isWordC hZ hc.1 hc.2.1 he (by decide), cl_some, hw6, if_neg (by decide), k1, cl_some, bd_eq, c1]
    rfl
  by_cases d : tK b n (tE b n e) = 2 ∧ nOK (tV b n (tE b n e)) 0 (nI (cB Q) - 1)
  · obtain ⟨C2, k2, f2, g2, o2⟩ := seeC (Z := Z) o1 (lo := 0) (by decide) d.1 d.2
    have q2 := numR (Z := Z) t1 (lo := 0) (by decide) d.1 d.2
    have lv : tV b n (tE b n e) < cB Q := by
      have := d.2.2
      omega
    generalize hbg : tV b n (tE b n e) = bg at *
    obtain ⟨a1, a2⟩ := hA (r * 3 + bg) (by omega)
    have am : f_X0_amountOf Z C2 22 (nI r) (nI bg) = some (nI (pn Q (32 + (r * 3 + bg))), C2) := by
      unfold f_X0_amountOf
      rw [i3, nI_mul, nI_add, rdI_n (by omega) (by decide), ((h0.fP f1).fP f2).1.2.2.2.2.1 _ (by omega), a1]
    have ix : ((32 : Int32) + (3 : Int32) * nI r) + nI bg = nI (32 + (r * 3 + bg)) := by
      rw [show (32 : Int32) = nI 32 from rfl, show (3 : Int32) = nI 3 from rfl, nI_mul, nI_add, nI_add, mc3, Nat.add_assoc]
    have rQ2 : gI R1 113 (32 + (r * 3 + bg)) = nI (pn Q (32 + (r * 3 + bg))) := by rw [rQ]; exact a1
    have q2' : f_X12_numberHere Z R1 0 (nI (cB Q) - nI 1) = some (nI bg, R1) := q2
    have am0 : ∀ m x, x ≤ 3 → f_X4_parseUses_L2 Z (nI r) (kU Z) (m + 1) (nI x) Mc = (if nI (pn Q (32 + (r * 3 + bg))) = 0 then cl (f_X2_advance Z C2) (fun v13 M14 => cl (f_X4_takeNumber Z M14 (1 : Int32) (99 : Int32)) (fun v15 M16 => (if v15 = 0 then some ((0 : Int32), M16) else bd (gI M16 (21) 5) (fun v17 => wrI M16 25 54 ((nI r * (3 : Int32)) + nI bg) v17 (fun M18 => f_X4_parseUses_L2 Z (nI r) (kU Z) m (nI x + (1 : Int32)) M18))))) else kU Z C2) := fun m x hx => by
      rw [st m x hx, k2, cl_some, if_neg (by decide), bd_eq, g2, am, cl_some]
    have rf0 : f_X12_usesRead Z R1 (nI r) = (if pn Q (32 + (r * 3 + bg)) = 0 then cl (f_X12_goesOn Z R1) (fun v8 M9 => cl (f_X12_takes Z M9 (1 : Int32) (99 : Int32)) (fun v10 M11 => cl (f_X12_puts Z M11 (nI (32 + (r * 3 + bg))) v10) (fun v12 M13 => some ((), M13)))) else cl (f_X12_fails Z R1 (3 : Int32)) (fun v19 M20 => cl (f_X12_goesOn Z M20) (fun v8 M9 => cl (f_X12_takes Z M9 (1 : Int32) (99 : Int32)) (fun v10 M11 => cl (f_X12_puts Z M11 (nI (32 + (r * 3 + bg))) v10) (fun v12 M13 => some ((), M13)))))) := by
      unfold f_X12_usesRead
      rw [show (1 : Int32) = nI 1 from rfl, rdI_n (by decide) (by decide), rQ, hQ1, q2', cl_some, bd_eq, t1.2.2.1, jn_eq, if_pos (show nI 0 = (0 : Int32) from rfl)]
      dsimp only
      rw [bd_eq, jn_eq, if_pos (show nI 0 = (0 : Int32) from rfl), ix, rdI_n (by omega) (by decide), rQ2]
      by_cases z : pn Q (32 + (r * 3 + bg)) = 0
      · rw [if_pos z, if_pos (by rw [z]; decide)]
      · rw [if_neg z, if_neg (by rw [show (0 : Int32) = nI 0 from rfl, nI_ile (by omega) (by decide)]; omega)]
    by_cases z : pn Q (32 + (r * 3 + bg)) = 0
    · obtain ⟨C3, k3, f3, _, o3⟩ := nextC hZ o2
      obtain ⟨R3, q3, s3, t3⟩ := goesOnR hZ t1
      have le3 := tE_le (b := b) o3.2.2
      by_cases d2 : tK b n (tE b n (tE b n e)) = 2 ∧ nOK (tV b n (tE b n (tE b n e))) 1 99
      · obtain ⟨C4, k4, f4, g4, o4⟩ := takeC hZ o3 (lo := 1) (by decide) d2.1 d2.2
        obtain ⟨R4, q4, s4, t4⟩ := takesR hZ t3 (lo := 1) (by decide) d2.1 d2.2
        have lv2 : tV b n (tE b n (tE b n e)) ≤ 99 := by
          have := d2.2.2
          have e6 : (99 : Int32).toInt = 99 := by decide
          omega
        have lv1 := d2.2.1
        generalize hv : tV b n (tE b n (tE b n e)) = v at *
        obtain ⟨R5, q5, s5, t5⟩ := putsR (Z := Z) (v := nI v) t4 (j := 32 + (r * 3 + bg)) (by omega)
        have A := ((((h0.fP f1).fP f2).fP f3).fP f4).updA (j := r * 3 + bg) (v := nI v) hT (by omega)
        have W : CQW (upd Q (32 + (r * 3 + bg)) (nI v)) (sI C4 25 (r * 3 + bg) (nI v)) := ((((hw.fP f1).fP f2).fP f3).fP f4).updL (by omega) (by rw [gI_sI', if_neg (by decide)])
        refine Or.inl ⟨bg, v, tE b n (tE b n (tE b n e)), sI C4 25 (r * 3 + bg) (nI v), R1, R5, fun m x hx => ?_, q1, ?_, ⟨o4.s (by decide) (by decide), A, W, t5⟩, lv, z, lv1, lv2, by omega, fr_sI (((f1.p.trans f2.p).trans f3.p).trans f4.p) (by decide), ((s1.trans s3).trans s4).trans s5⟩
        · rw [am0 m x hx, if_pos (by rw [z]; rfl), k3, cl_some, show f_X4_takeNumber Z C3 1 99 = some (1, C4) from k4, cl_some, if_neg (by decide), bd_eq, g4, show (3 : Int32) = nI 3 from rfl, nI_mul, nI_add, wrI_n (by omega) (by decide)]
        · rw [rf0, if_pos z, q3, cl_some, show f_X12_takes Z R3 1 99 = some (nI v, R4) from q4, cl_some, q5, cl_some]
      · obtain ⟨C4, k4, f4, o4⟩ := takeN (Z := Z) o3 (lo := 1) (by decide) d2
        obtain ⟨R4, q4, s4, t4⟩ := takesN (Z := Z) t3 (lo := 1) (by decide) d2
        refine Or.inr ⟨_, _, C4, R1, R4, fun m x hx => ?_, q1, ?_, o4, t4, ((f1.p.trans f2.p).trans f3.p).trans (f4.mono (by decide)), (s1.trans s3).trans s4⟩
        · rw [am0 m x hx, if_pos (by rw [z]; rfl), k3, cl_some, show f_X4_takeNumber Z C3 1 99 = some (0, C4) from k4, cl_some, if_pos rfl]
        · rw [rf0, if_pos z, q3, cl_some, show f_X12_takes Z R3 1 99 = some (nI 1, R4) from q4, cl_some, putsE t4, cl_some]
    · obtain ⟨C3, k3, f3, o3⟩ := failC (Z := Z) (c := 3) o2
      obtain ⟨R3, q3, s3, t3⟩ := failsR (Z := Z) t1 (c := 3) (by decide) (by decide)
      refine Or.inr ⟨_, _, C3, R1, R3, fun m x hx => ?_, q1, ?_, o3, t3, (f1.p.trans f2.p).trans (f3.mono (by decide)), s1.trans s3⟩
      · rw [am0 m x hx, if_neg (by rw [show (0 : Int32) = nI 0 from rfl, nI_eq (by omega) (by decide)]; exact z)]
        unfold kU
        rw [show (3 : Int32) = nI 3 from rfl, k3, cl_some, if_pos (by decide)]
      · rw [rf0, if_neg z, show (3 : Int32) = nI 3 from rfl, q3, cl_some, goesOnE t3, cl_some, takesE t3, cl_some, putsE t3, cl_some]
  · obtain ⟨C2, k2, f2, o2⟩ := seeN (Z := Z) o1 (lo := 0) (by decide) d
    obtain ⟨R2, q2, s2, t2⟩ := numN (Z := Z) t1 (lo := 0) (by decide) d
    refine Or.inr ⟨_, _, C2, R1, R2, fun m x hx => ?_, q1, ?_, o2, t2, f1.p.trans (f2.mono (by decide)), s1.trans s2⟩
    · rw [st m x hx, k2, cl_some, if_pos rfl]
    · unfold f_X12_usesRead
      rw [show (1 : Int32) = nI 1 from rfl, rdI_n (by decide) (by decide), rQ, hQ1, show f_X12_numberHere Z R1 0 (nI (cB Q) - nI 1) = some (nI 0, R2) from q2, cl_some, bd_eq, jn_eq, if_neg (er_ne t2)]
      dsimp only
      rw [bd_eq, jn_eq, if_neg (er_ne t2)]
      dsimp only
      rw [goesOnE t2, cl_some, takesE t2, cl_some, putsE t2, cl_some]
