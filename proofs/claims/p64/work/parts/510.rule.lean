theorem WS.wp {M M' : Mem} {o m : Nat} (h : WS M o m) (e : gI M' o = gI M o) : WS M' o m := by
  unfold WS
  rw [e]
  exact h
theorem WS.step {M M' : Mem} {o a v : Nat} (h : WS M o (a + 1)) (ha : a + 1 < 3) (hv : v ≤ pn (gI M o) a) (e : ∀ j, gI M' o j = if j = a + 1 then nI v else if j = a then nI (pn (gI M o) a - v) else gI M o j) : WS M' o (a + 2) := by
  have hw := WS_le h (by omega)
  obtain ⟨h1, h2, h3⟩ := h
  have wa := hw a (by omega)
  have pe : ∀ j, pn (gI M' o) j = if j = a + 1 then v else if j = a then pn (gI M o) a - v else pn (gI M o) j := fun j => by
    rw [show pn (gI M' o) j = (gI M' o j).toNatClampNeg from rfl, e]
    split
    · exact nI_clamp (by omega)
    · split
      · exact nI_clamp (by omega)
      · rfl
  refine ⟨fun j hj => ?_, ?_, fun j hj1 hj2 => ?_⟩
  · rw [pe, e]
    split
    · rfl
    · split
      · rfl
      · exact h1 j hj
  · have e2 : sm a (pn (gI M' o)) = sm a (pn (gI M o)) := sm_c9 a (fun j hj => by rw [pe, if_neg (by omega), if_neg (by omega)])
    rw [sm] at h2
    rw [sm, sm, e2, pe, pe, if_pos rfl, if_neg (by omega), if_pos rfl]
    omega
  · rw [e, if_neg (by omega), if_neg (by omega)]
    exact h3 j (by omega) hj2
def J22 (M0 : Mem) (T : List Nat) (r k0 a : Nat) (M : Mem) : Prop := (∃ k, gI M 108 1 = nI k ∧ k ≤ k0 + a) ∧ TB M T ∧ frS (fun w => w = 108 ∨ w = r) M0 M ∧ WS M r (a + 1)
theorem L22_ok {R : Option (Unit × Mem) → Prop} {Z LX : Nat} {xs : Nat → Int32} (hL : LX < 2147483647) {x m k0 : Nat} (hx : x < 6) (hm : m ≤ 3) {M0 : Mem} {T : List Nat} (hR : RWw M0 (fun x => 120 + x)) (h7 : gI M0 111 x = nI m) (hk0 : k0 < 900000) {k : Mem → Option (Unit × Mem)} (hK : ∀ M, J22 M0 T (120 + x) k0 (m - 1) M → R (k M)) : ∀ d n a M, a + 1 + d = m → d < n → J22 M0 T (120 + x) k0 a M → R (f_X12_rule_L22 shL Z LX xs (nI x) k n (nI a) M) := by
  have sh1 := (shL_rows x hx).2.1
  intro d
  induction d with
  | zero =>
    intro n a M hb hd hJ
    obtain ⟨n, rfl⟩ := Nat.exists_eq_succ_of_ne_zero (Nat.ne_of_gt hd)
    have e9 : gI M 111 x = nI m := by rw [hJ.2.2.1.1 111 (by omega)]; exact h7
    rw [f_X12_rule_L22]
    refine rdI_R rfl hx (by decide) ?_
    rw [e9, i1, nI_add]
    refine ifp_R (by rw [nI_ile (by omega) (by omega)]; omega) (hK M ?_)
    rw [show m - 1 = a by omega]
    exact hJ
  | succ d ih =>
    intro n a M hb hd hJ
    obtain ⟨n, rfl⟩ := Nat.exists_eq_succ_of_ne_zero (show n ≠ 0 by omega)
    have e9 : gI M 111 x = nI m := by rw [hJ.2.2.1.1 111 (by omega)]; exact h7
    obtain ⟨⟨q, hq, hq2⟩, hT, hf, hW⟩ := hJ
    have hRM : RWw M (fun x => 120 + x) := hR.R hf.2.2
    have hw := WS_le hW (by omega) a (by omega)
    rw [f_X12_rule_L22]
    refine rdI_R rfl hx (by decide) ?_
    rw [e9, i1, nI_add]
    refine ifn_R (by rw [nI_ile (by omega) (by omega)]; omega) ?_
    refine rdQ_R rfl hx (by decide) (hRM x hx) sh1 ?_
    refine rdQ_R rfl hx (by decide) (hRM x hx) sh1 ?_
    refine rdI_R rfl (by omega) (by decide) ?_
    refine ifp_R (by decide) ?_
    refine next_R hq (by omega) rfl (hW.1 a (by omega)) (a := 0) (by omega) (by omega) hL (fun v hv0 hv => ?_)
    refine wrI_R rfl (by omega) (by decide) ?_
    have hf0 : frS (fun w => w = 108 ∨ w = 120 + x) M (sI (sI M 108 1 (nI (q + 1))) (120 + x) (a + 1) (nI v)) := (frS_sI (.inl rfl)).trans (frS_sI (.inr rfl))
    have hT1 := (hT.wr (o := 108) (k := 1) (v := nI (q + 1)) (by decide) (by decide) (by decide)).wr (o := 120 + x) (k := a + 1) (v := nI v) (by omega) (by omega) (by omega)
    have g1 : ∀ j, gI (sI (sI M 108 1 (nI (q + 1))) (120 + x) (a + 1) (nI v)) (120 + x) j = if j = a + 1 then nI v else gI M (120 + x) j := fun j => by
      rw [gI_sI, gI_sI, if_neg (show ¬ (120 + x = 108 ∧ j = 1) by omega)]
      by_cases hj : j = a + 1
      · rw [if_pos ⟨rfl, hj⟩, if_pos hj]
      · rw [if_neg (fun z => hj z.2), if_neg hj]
    have gq : gI (sI (sI M 108 1 (nI (q + 1))) (120 + x) (a + 1) (nI v)) 108 1 = nI (q + 1) := by
      rw [gI_sI, if_neg (fun z => by omega), gI_same]
    generalize sI (sI M 108 1 (nI (q + 1))) (120 + x) (a + 1) (nI v) = M1 at hf0 hT1 g1 gq ⊢
    have hR1 : RWw M1 (fun x => 120 + x) := hRM.R hf0.2.2
    refine rdQ_R rfl hx (by decide) (hR1 x hx) sh1 ?_
    refine rdI_R rfl (by omega) (by decide) ?_
    refine rdQ_R rfl hx (by decide) (hR1 x hx) sh1 ?_
    refine rdI_R rfl (by omega) (by decide) ?_
    rw [g1 a, if_neg (by omega), g1 (a + 1), if_pos rfl, hW.1 a (by omega), nI_sub hv]
    refine wrI_R rfl (by omega) (by decide) ?_
    refine ih n (a + 1) _ (by omega) (by omega) ?_
    refine ⟨⟨q + 1, ?_, by omega⟩, hT1.wr (o := 120 + x) (by omega) (by omega) (by omega), (hf.trans hf0).trans (frS_sI (.inr rfl)), hW.step (by omega) hv (fun j => ?_)⟩
    · rw [gI_sI, if_neg (show ¬ (108 = 120 + x ∧ 1 = a) by omega)]
      exact gq
    rw [gI_sI, g1 j]
    by_cases hj : j = a
    · rw [if_pos ⟨rfl, hj⟩, if_neg (by omega), if_pos hj]
    · rw [if_neg (fun z => hj z.2), if_neg hj]
theorem L100_ok {R : Option (Unit × Mem) → Prop} {Z LX : Nat} {xs : Nat → Int32} {x m c0 : Nat} (hx : x < 6) (hm : m ≤ 3) {M0 : Mem} {T : List Nat} (hR : RWw M0 (fun x => 120 + x)) (h7 : gI M0 111 x = nI m) (hc0 : c0 ≤ 4) (hT0 : T.length + 9 ≤ 1100) (hW : WS M0 (120 + x) m) (hK : ∀ M, TB M (T ++ ruT (pn (gI M0 (120 + x))) m) → frS S7 M0 M → R (some ((), M))) : ∀ d n a M c, a + d = m → d < n → TB M (T ++ ruT (pn (gI M0 (120 + x))) a) → frS S7 M0 M → c ≤ c0 + 2 * a → R (f_X12_rule_L100 shL Z LX xs (nI x) n (nI a) M c) := by
  have sh1 := (shL_rows x hx).2.1
  have hw := WS_le hW hm
  intro d
  induction d with
  | zero =>
    intro n a M c hb hd hT hf hc
    obtain ⟨n, rfl⟩ := Nat.exists_eq_succ_of_ne_zero (Nat.ne_of_gt hd)
    obtain rfl : a = m := hb
    have e9 : gI M 111 x = nI a := by rw [hf.1 111 (by unfold S7; omega)]; exact h7
    rw [f_X12_rule_L100]
    refine rdI_R rfl hx (by decide) ?_
    rw [e9]
    exact ifp_R (Int32.le_refl _) (ifp_R (by omega) (hK M hT hf))
  | succ d ih =>
    intro n a M c hb hd hT hf hc
    obtain ⟨n, rfl⟩ := Nat.exists_eq_succ_of_ne_zero (show n ≠ 0 by omega)
    have e9 : gI M 111 x = nI m := by rw [hf.1 111 (by unfold S7; omega)]; exact h7
    have hl := ruT_len (w := pn (gI M0 (120 + x))) a (fun j hj => hw j (by omega))
    have wa := hw a (by omega)
    have d2 : (dgs (pn (gI M0 (120 + x)) a)).length ≤ 2 := by
      unfold dgs
      split
      · exact Nat.le_succ 1
      · rw [if_pos (by omega)]
        exact Nat.le_refl _
    have s1 : ([32] : List Nat).length = 1 := rfl
    rw [f_X12_rule_L100]
    refine rdI_R rfl hx (by decide) ?_
    rw [e9]
    refine ifn_R (by rw [nI_ile (by omega) (by omega)]; omega) (ifp_R (by omega) ?_)
    refine apK_R hT (by decide) (by simp only [List.length_append]; omega) (fun M1 hT1 hf1 => ?_)
    have hf01 := hf.trans hf1
    have hR1 : RWw M1 (fun x => 120 + x) := hR.R hf01.2.2
    refine rdQ_R rfl hx (by decide) (hR1 x hx) sh1 ?_
    refine rdI_R rfl (by omega) (by decide) ?_
    rw [hf01.1 (120 + x) (by unfold S7; omega), hW.1 a (by omega)]
    refine ifp_R (by omega) ?_
    refine apI_R hT1 (by omega) (by simp only [List.length_append]; omega) (fun M2 hT2 hf2 => ?_)
    rw [i1, nI_add]
    refine ih n (a + 1) M2 _ (by omega) (by omega) ?_ (hf01.trans hf2) (by omega)
    rw [ruT]
    simp only [← List.append_assoc] at hT2 ⊢
    exact hT2
