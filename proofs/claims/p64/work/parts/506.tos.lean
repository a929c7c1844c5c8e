theorem L196_ok {R : Option (Unit × Mem) → Prop} {Z LX : Nat} {xs : Nat → Int32} (hL : LX < 2147483647) {x a n f k0 c0 : Nat} (hx : x < 6) (ha : a < 3) (hn : n ≤ 4) (hn1 : 1 ≤ n) (hfn : f < n) {M0 : Mem} {T0 : List Nat} (hR : RW M0) (h9 : gI M0 109 1 = nI n) (hk0 : k0 < 900000) (hc0 : c0 ≤ 20) (hT0 : T0.length + 36 ≤ 1100) (hK : ∀ m M c, J196 M0 T0 (153 + 4 * x + a) (178 + 4 * x + a) n f k0 c0 m 0 M c → R (some ((), M))) : ∀ d fu m left M c, m + d = n → d < fu → J196 M0 T0 (153 + 4 * x + a) (178 + 4 * x + a) n f k0 c0 m left M c → R (f_X12_act_L196 shL Z LX xs (nI x) (nI a) (nI f) fu (nI left) (nI m) (nI m) M c) := by
  have hS1 : ¬ S8 (153 + 4 * x + a) := by unfold S8 S7; omega
  have hS2 : ¬ S8 (178 + 4 * x + a) := by unfold S8 S7; omega
  have hS71 : ¬ S7 (153 + 4 * x + a) := fun z => hS1 (.inr z)
  have hS72 : ¬ S7 (178 + 4 * x + a) := fun z => hS2 (.inr z)
  have h12 : 153 + 4 * x + a ≠ 178 + 4 * x + a := by omega
  intro d
  induction d with
  | zero =>
    intro fu m left M c hb hd hJ
    obtain ⟨fu, rfl⟩ := Nat.exists_eq_succ_of_ne_zero (Nat.ne_of_gt hd)
    obtain rfl : m = n := hb
    have e9 : gI M 109 1 = nI m := by rw [hJ.1.2.2.2.1 109 (by unfold S8 S7; omega)]; exact h9
    have hl := hJ.2.2.2.2 rfl
    subst hl
    have hc := hJ.1.2.1
    rw [f_X12_act_L196]
    refine bd_R ?_
    refine ifp_R (by rw [e9]; exact Int32.le_refl _) (ifp_R (by omega) (hK _ M c hJ))
  | succ d ih =>
    intro fu m left M c hb hd hJ
    obtain ⟨fu, rfl⟩ := Nat.exists_eq_succ_of_ne_zero (show fu ≠ 0 by omega)
    have hJ9 := hJ
    obtain ⟨⟨⟨q, hq, hq2⟩, hc, hm, hf⟩, hT, ⟨ho, hp, hz⟩, hs, -⟩ := hJ9
    have e9 : gI M 109 1 = nI n := by rw [hf.1 109 (by unfold S8 S7; omega)]; exact h9
    have hRM : RW M := hR.R hf.2.2
    have hmn : ∀ j, (f + j) % n < n := fun j => Nat.mod_lt _ (by omega)
    have hul : (toT (fun j => (f + j) % n) (pn (gI M (153 + 4 * x + a))) m).length ≤ 9 * m := toT_len m (fun j hj => ⟨by have := hmn j; omega, by
      obtain ⟨u, h0, h1, h2⟩ := hp j hj
      show pn _ ((f + j) % n) ≤ 100
      unfold pn
      rw [h2, nI_clamp (by omega)]
      exact h1⟩)
    have sh1 := (shL_rows x hx).2.2.2.1
    have sh2 := (shL_rows2 x hx a ha).2.1
    have sh3 := (shL_rows x hx).2.2.2.2.1
    have sh4 := (shL_rows2 x hx a ha).2.2
    rw [f_X12_act_L196]
    refine bd_R (ifn_R (by rw [e9, nI_ile (by omega) (by omega)]; omega) ?_)
    by_cases hl0 : left = 0
    · subst hl0
      exact ifp_R (by decide) (ifp_R (by omega) (hK _ M c hJ))
    refine ifn_R (by rw [i0, nI_ile (by omega) (by omega)]; omega) ?_
    refine bd_R ?_
    rw [e9]
    unfold nzI
    refine ifn_R (nI_ne0 (by omega) (by omega)) ?_
    refine bd_R ?_
    have ey : nI f + nI m - (nI f + nI m) / nI n * nI n = nI ((f + m) % n) := by rw [nI_add, nI_mod (by omega) (by omega)]
    rw [ey]
    have hy := hmn m
    refine jn_R (fun t : Int32 × Mem => (∃ v, 1 ≤ v ∧ v ≤ left ∧ (m + 1 = n → v = left) ∧ t.1 = nI v) ∧ (∃ q', gI t.2 108 1 = nI q' ∧ q' ≤ k0 + 2 * m + 2) ∧ frS (fun w => w = 108) M t.2 ∧ TB t.2 (T0 ++ toT (fun j => (f + j) % n) (pn (gI M (153 + 4 * x + a))) m)) ?_ ?_
    · rintro ⟨v1, M1⟩ ⟨⟨v, hv1, hv2, hv3, hv4⟩, ⟨q1, hq1, hq3⟩, hf1, hT1⟩
      dsimp only at hv4 hq1 hf1 hT1 ⊢
      subst hv4
      have hR1 : RW M1 := hRM.R hf1.2.2
      refine rdQ_R rfl hx (by decide) (hR1.1 x hx).2.2.1 sh1 ?_
      refine rdQ_R rfl ha (by decide) (hR1.2 x hx a ha).2.1 sh2 ?_
      refine wrI_R rfl (by omega) (by decide) ?_
      have hR2 : RW (sI M1 (153 + 4 * x + a) ((f + m) % n) (nI v)) := hR1
      refine rdQ_R rfl hx (by decide) (hR2.1 x hx).2.2.2.1 sh3 ?_
      refine rdQ_R rfl ha (by decide) (hR2.2 x hx a ha).2.2 sh4 ?_
      refine wrI_R rfl (by omega) (by decide) ?_
      have hf2 : frS (fun w => w = 108 ∨ w = 153 + 4 * x + a ∨ w = 178 + 4 * x + a) M (sI (sI M1 (153 + 4 * x + a) ((f + m) % n) (nI v)) (178 + 4 * x + a) m (nI ((f + m) % n))) := ((hf1.wk (fun _ h => .inl h)).trans (frS_sI (.inr (.inl rfl)))).trans (frS_sI (.inr (.inr rfl)))
      have g1 : ∀ j, gI (sI (sI M1 (153 + 4 * x + a) ((f + m) % n) (nI v)) (178 + 4 * x + a) m (nI ((f + m) % n))) (153 + 4 * x + a) j = if j = (f + m) % n then nI v else gI M (153 + 4 * x + a) j := fun j => by
        rw [gI_sI, if_neg (fun z => h12 z.1), gI_sI, hf1.1 _ (by omega)]
        by_cases hj : j = (f + m) % n
        · rw [if_pos ⟨rfl, hj⟩, if_pos hj]
        · rw [if_neg (fun z => hj z.2), if_neg hj]
      have g2 : ∀ j, gI (sI (sI M1 (153 + 4 * x + a) ((f + m) % n) (nI v)) (178 + 4 * x + a) m (nI ((f + m) % n))) (178 + 4 * x + a) j = if j = m then nI ((f + m) % n) else gI M (178 + 4 * x + a) j := fun j => by
        rw [gI_sI, gI_sI, hf1.1 _ (by omega)]
        by_cases hj : j = m
        · rw [if_pos ⟨rfl, hj⟩, if_pos hj]
        · rw [if_neg (fun z => hj z.2), if_neg (fun z => h12 z.1.symm), if_neg hj]
      have gq : gI (sI (sI M1 (153 + 4 * x + a) ((f + m) % n) (nI v)) (178 + 4 * x + a) m (nI ((f + m) % n))) 108 1 = nI q1 := by
        rw [gI_sI, if_neg (fun z => by omega), gI_sI, if_neg (fun z => by omega)]
        exact hq1
      have hT2 := (hT1.wr (o := 153 + 4 * x + a) (k := (f + m) % n) (v := nI v) (by omega) (by omega) (by omega)).wr (o := 178 + 4 * x + a) (k := m) (v := nI ((f + m) % n)) (by omega) (by omega) (by omega)
      generalize sI (sI M1 (153 + 4 * x + a) ((f + m) % n) (nI v)) (178 + 4 * x + a) m (nI ((f + m) % n)) = M2 at hf2 g1 g2 gq hT2 ⊢
      have d1 : (dgs ((f + m) % n)).length = 1 := by
        unfold dgs
        rw [if_pos (by omega)]
        rfl
      have d2 : (dgs v).length ≤ 3 := by
        unfold dgs
        split
        · exact Nat.le_add_left 1 2
        · split
          · exact Nat.le_succ 2
          · rw [if_pos (by omega)]
            exact Nat.le_refl _
      have w18 : (WL.getD 18 []).length = 4 := rfl
      have s1 : ([32] : List Nat).length = 1 := rfl
      refine ifp_R (by omega) ?_
      refine apW_R hT2 (by decide) (by simp only [List.length_append]; omega) (fun M3 hT3 hf3 => ?_)
      refine ifp_R (by omega) ?_
      refine apI_R hT3 (by omega) (by simp only [List.length_append]; omega) (fun M4 hT4 hf4 => ?_)
      refine ifp_R (by omega) ?_
      refine apK_R hT4 (by decide) (by simp only [List.length_append]; omega) (fun M5 hT5 hf5 => ?_)
      refine ifp_R (by omega) ?_
      refine apI_R hT5 (by omega) (by simp only [List.length_append]; omega) (fun M6 hT6 hf6 => ?_)
      have hf26 := ((hf3.trans hf4).trans hf5).trans hf6
      rw [nI_sub hv2, i1, nI_add]
      refine ih fu (m + 1) (left - v) M6 _ (by omega) (by omega) ?_
      refine hJ.next (by omega) hn h12 hv1 hv2 hv3 (k := q1) ?_ hq3 (by omega) ((hf2.wk (fun w h => h.elim (fun h => .inl (.inl h)) .inr)).trans (hf26.wk (fun _ h => .inl (.inr h)))) (fun j => by rw [hf26.1 _ hS71]; exact g1 j) (fun j => by rw [hf26.1 _ hS72]; exact g2 j) ?_
      · rw [hf26.1 108 (by unfold S7; omega)]
        exact gq
      · simp only [← List.append_assoc] at hT6 ⊢
        exact hT6
    · intro j68 h68
      refine jn_R (fun t : Mem => (∃ q', gI t 108 1 = nI q' ∧ q' ≤ k0 + 2 * m + 2) ∧ frS (fun w => w = 108) M t ∧ TB t (T0 ++ toT (fun j => (f + j) % n) (pn (gI M (153 + 4 * x + a))) m)) ?_ ?_
      · rintro M1 ⟨hq1, hf1, hT1⟩
        exact h68 _ ⟨⟨left, by omega, Nat.le_refl _, fun _ => rfl, rfl⟩, hq1, hf1, hT1⟩
      · intro j70 h70
        by_cases hlast : m + 1 = n
        · refine ifp_R (by rw [i1, nI_sub hn1]; congr 1; omega) (h70 _ ⟨⟨q, hq, by omega⟩, frS.rfl, hT⟩)
        · refine ifn_R (by rw [i1, nI_sub hn1, nI_eqx (by omega) (by omega)]; omega) ?_
          have hf0 : frS (fun w => w = 108) M (sI M 108 1 (nI (q + 1))) := frS_sI rfl
          have hT9 := hT.wr (o := 108) (k := 1) (v := nI (q + 1)) (by decide) (by decide) (by decide)
          have g0 : gI (sI M 108 1 (nI (q + 1))) 108 1 = nI (q + 1) := gI_same
          refine ifp_R (by omega) ?_
          refine next_R hq (by omega) rfl rfl (a := 0) (b := 2) (by decide) (by decide) hL (fun v hv1 hv2 => ?_)
          by_cases hv : v = 0
          · subst hv
            exact ifp_R rfl (h70 _ ⟨⟨q + 1, g0, by omega⟩, hf0, hT9⟩)
          · refine ifn_R (nI_ne0 (by omega) (by omega)) ?_
            refine ifp_R (by omega) ?_
            refine next_R g0 (by omega) rfl rfl (a := 1) (b := left) (by omega) (by omega) hL (fun v2 hv3 hv4 => ?_)
            exact h68 _ ⟨⟨v2, hv3, hv4, fun z => absurd z hlast, rfl⟩, ⟨q + 1 + 1, gI_same, by omega⟩, hf0.trans (frS_sI rfl), hT9.wr (by decide) (by decide) (by decide)⟩
