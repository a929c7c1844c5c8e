theorem ck_load {Z : Nat} {M : Mem} (hZ : 4000 < Z) (hI : Inv M) (p : Int32) : CK (f_L_load Z M p) (fun M => f_X12_load Z M p) (fun v => v.toInt64) := by
  have hb := hI.ib
  obtain ⟨b1, b2, b3, b4⟩ := hI.ib
  have by0 : ∀ i, i < pn (gI M 108) 9 → bytL M i < 256 ∧ gI M 114 i = nI (bytL M i) ∧ gI M 2 i = bySg (bytL M i) := fun i hi => bytL_ok hb hi
  generalize hq : pn (gI M 108) 9 = q at *
  have b0 : gI M 1 1 = nI q := b1.trans b2
  by_cases c : inN p 0 q
  · obtain ⟨n, _, hn, rfl⟩ := inN_nI c
    have sim := fun (Mr : Mem) (h114 : gI Mr 114 = gI M 114) => parse_sim (Mc := M) (Mr := Mr) (b := bytL M) (n := n) hZ (by omega) (fun i hi => ⟨(by0 i (by omega)).1, (by0 i (by omega)).2.2⟩) (fun i hi => ⟨(by0 i (by omega)).1, by rw [h114]; exact (by0 i (by omega)).2.1⟩)
    have rot := rot_of hI.2.2.2.2.2
    rcases sim M rfl with ⟨_, Q1, C1, _, k1, _, g1, V1, _, F1, _⟩ | ⟨_, _, C1, _, k1, _, _, _, F1, _⟩
    · -- right
      have F4 : fr lP M (sI C1 1 1 (0 : Int32)) := fr_sI F1 (by decide)
      have e4 : ∀ o, o ≠ 1 → gI (sI C1 1 1 (0 : Int32)) o = gI C1 o := fun o ho => by rw [gI_sI', if_neg ho]
      have e11 : gI (sI C1 1 1 (0 : Int32)) 1 1 = nI 0 := by rw [gI_sI, if_pos ⟨rfl, rfl⟩]; rfl
      have eX : f_X11_load Z M (nI n) = kCopy Z (sI C1 1 1 (0 : Int32)) := by
        rw [loadC_in b0 b3 hn, k1, cl_some, bd_eq, if_neg (by decide)]
      generalize sI C1 1 1 (0 : Int32) = M4 at *
      obtain ⟨M12, kc, F12, h12, c12, x35, x353, x96⟩ := kCopy_ok (Z := Z) (M := M4) hZ
      have r4 : ∀ Q : Nat → Int32, RP Q C1 22 → RP Q M4 22 := fun Q h => h.at (fun i hi => e4 _ (by omega))
      have cnt1 := kc Q1 (r4 Q1 g1.2.1.1) V1.1
      have eL : f_L_load Z M (nI n) = some (0, sL M12 124 0 (nI (sm (cN Q1) (cM Q1))).toInt64) := by
        unfold f_L_load
        rw [eX, cnt1, clT_ok, i0, wrL_n (by decide) (by decide)]
      generalize hm1 : sL M12 124 0 (nI (sm (cN Q1) (cM Q1))).toInt64 = M13 at *
      have e13 : ∀ o, gI M13 o = gI M12 o := fun o => by rw [← hm1]; rfl
      have r13 : ∀ o, gR M13 o = gR M12 o := fun o => by rw [← hm1]; rfl
      have l13 : gL M13 124 0 = (nI (sm (cN Q1) (cM Q1))).toInt64 := by rw [← hm1, gL_sL, if_pos ⟨rfl, rfl⟩]
      have u12 : ∀ o, o ∉ lK → o ∉ lP → gI M13 o = gI M o := fun o a b => by rw [e13, F12.I a, F4.I b]
      have q12 : ∀ o, o ∉ lK → o ∉ lP → gR M13 o = gR M o := fun o a b => by rw [r13, F12.R a, F4.R b]
      have f9 : fr [108] M13 (sI (T0 M13) 108 9 (0 : Int32)) := fr_sI (fr_sI fr.rfl (by decide)) (by decide)
      have n9 : gI (sI (T0 M13) 108 9 (0 : Int32)) 108 9 = nI 0 := by rw [gI_sI, if_pos ⟨rfl, rfl⟩]; rfl
      have n0 : gI (sI (T0 M13) 108 9 (0 : Int32)) 108 0 = 0 := by rw [gI_sI, if_neg (by decide)]; exact T0_0
      have nk : ∀ k, k ≠ 0 → k ≠ 9 → gI (sI (T0 M13) 108 9 (0 : Int32)) 108 k = gI M 108 k := fun k a b => by
        unfold T0
        rw [gI_sI, if_neg (fun z => b z.2), gI_sI, if_neg (fun z => a z.2), u12 108 (by decide) (by decide)]
      have rl : f_X12_load Z M13 (nI n) = cl (f_X12_reads Z (sI (T0 M13) 108 9 (0 : Int32)) (nI n)) (fun _ M10 => rLoad Z M10) := by
        rw [loadR_eq (by rw [u12 108 (by decide) (by decide)]; exact b2) b3, if_pos c]
      generalize hMr : sI (T0 M13) 108 9 (0 : Int32) = Mr at *
      rcases sim Mr (by rw [f9.I (by decide), u12 114 (by decide) (by decide)]) with ⟨e, Q, C2, R2, k2, q2, g2, V2, z2, _, G2⟩ | ⟨_, _, C2, _, k2, _, _, _, _, _⟩
      · have ec : C2 = C1 := by
          have := k2.symm.trans k1
          exact (Prod.mk.inj (Option.some.inj this)).2
        subst ec
        obtain ⟨hc, h0, hw, hr⟩ := g2
        have R0 : gI R2 108 0 = 0 := by rw [G2.2 0 (by decide) (by decide)]; exact n0
        obtain ⟨M', e5, f5, w1, ⟨w2, w3, w4, w5⟩, ⟨w6, w7⟩, w8, w9, w10, w11, w12, w13⟩ := rLoad_right hZ hr.2.2.1 R0 hr.2.2.2.1 V2
        generalize hP : gI M' 112 = P at *
        have VP' : VQ P := V2.same w8
        have eN : cN P = cN Q := pn_c (w8 0 (by decide))
        have eM : ∀ x, x < 6 → cM P x = cM Q x := fun x hx => by
          unfold cM
          rw [if_pos hx, if_pos hx]
          exact pn_c (w8 _ (by omega))
        have zP : ∀ x, x < cN P → cM P x ≠ 0 := fun x hx => by
          have := VP'.1.N.2
          rw [eM x (by omega)]
          exact z2 x (by rw [← eN]; exact hx)
        have sP : sm (cN P) (cM P) = sm (cN Q) (cM Q) := by
          have := VP'.1.N.2
          rw [← eN]
          exact sm_congr (fun x hx => eM x (by omega))
        have cnt : nI (sm (cN P) (cM P)) = nI (sm (cN Q1) (cM Q1)) := by
          have := (kc Q (r4 Q h0.1) V2.1).symm.trans cnt1
          have a := (Prod.mk.inj (Option.some.inj this)).1
          rw [sP]
          exact Except.ok.inj a
        -- what M' has of the class
        have uM : ∀ o, o ∉ [108, 109, 111, 112, 113, 115] → gI M' o = gI M12 o ∧ gR M' o = gR M12 o ∧ gL M' o = gL M13 o := fun o ho => by
          have a1 : o ∉ [108, 109, 111, 112] := fun z => ho (by simp at z ⊢; omega)
          have a2 : o ∉ [108, 113, 115] := fun z => ho (by simp at z ⊢; omega)
          have a3 : o ∉ [108] := fun z => ho (by simp at z ⊢; omega)
          rw [f5.I a1, G2.1.I a2, f9.I a3, e13, f5.R a1, G2.1.R a2, f9.R a3, r13, f5.L a1, G2.1.L a2, f9.L a3]
          exact ⟨rfl, rfl, rfl⟩
        have uA : ∀ o, o ∉ [108, 109, 111, 112, 113, 115] → o ∉ lK → gI M' o = gI M4 o := fun o a b => by rw [(uM o a).1, F12.I b]
        have uB : ∀ o, o ∉ [108, 109, 111, 112, 113, 115] → o ∉ lK → o ∉ lP → gI M' o = gI M o ∧ gR M' o = gR M o := fun o a b d => by
          rw [uA o a b, F4.I d, (uM o a).2.1, F12.R b, F4.R d]
          exact ⟨rfl, rfl⟩
        have k9 : gI M' 108 9 = nI 0 := by rw [w1 9 (by decide) (by decide) (by decide) (by decide), G2.2 9 (by decide) (by decide)]; exact n9
        have k31 : gI M' 108 31 = gI M 108 31 := by rw [w1 31 (by decide) (by decide) (by decide) (by decide), G2.2 31 (by decide) (by decide)]; exact nk 31 (by decide) (by decide)
        have k0 : gI M' 108 0 = 0 := by rw [w1 0 (by decide) (by decide) (by decide) (by decide)]; exact R0
        have p9 : pn (gI M' 108) 9 = 0 := pn_n k9 (by decide)
        have p4 : pn (gI M' 108) 4 = 0 := pn_n w3 (by decide)
        have hQ4 : CQ0 P M4 := h0.tr V2.1.T (fun o a b => e4 o (by omega)) w8
        have hW4 : CQW P M4 := hw.tr (e4 30 (by decide)) w8
        have hR3 : RP P M' 3 := (h12 P VP'.1.T hQ4.1).at (fun i hi => by
          have i7 : i = 0 ∨ i = 1 ∨ i = 2 ∨ i = 3 ∨ i = 4 ∨ i = 5 ∨ i = 6 := by omega
          rcases i7 with d | d | d | d | d | d | d <;> (subst d; exact (uM _ (by decide)).1))
        have h33 : ∀ t, gI M4 33 t = 0 ∧ gI M4 34 t = 0 := fun t => by
          rw [F4.I (show 33 ∉ lP by decide), F4.I (show 34 ∉ lP by decide)]
          exact hI.ih.2 t
        have hS : RS P M' 10 (gI M' 109) := ((RS.start VP' zP w9 w10 w11 w12 w13 hQ4 hW4 h33).cpd VP'.1.N.2 c12).same (fun i hi => by
          have i7 : i = 0 ∨ i = 1 ∨ i = 2 ∨ i = 3 ∨ i = 4 ∨ i = 5 := by omega
          rcases i7 with d | d | d | d | d | d <;> (subst d; exact (uM _ (by decide)).1))
        have hv : VS P (gI M' 109) := VS.start VP' zP w9 w10 w11 w13
        obtain ⟨rt, rt1, rt2⟩ := rot
        have hH : Has M' := by
          refine ⟨w2, by rw [hP]; exact VP'.vp zP, by rw [hP]; exact hR3, by rw [hP]; exact hv, by rw [hP]; exact hS, ⟨?_, by rw [p4]; exact w3, by rw [p4]; omega⟩, ⟨rt, rt1, fun k hk => ?_, fun k hk => absurd hk (by rw [p4]; omega)⟩, ⟨0, by decide, ?_, fun z hz => ⟨?_, fun d => absurd d (by rw [Nat.zero_div, Nat.zero_mod]; decide)⟩⟩, Or.inl ?_⟩
          · rw [(uM 35 (by decide)).1, x35, w3]
          · rw [(uB 36 (by decide) (by decide) (by decide)).2]
            exact rt2 k hk
          · rw [(uM 35 (by decide)).1]
            exact x353
          · rw [Nat.zero_div, Nat.zero_mod]
            have : z = 0 ∨ z = 1 := by omega
            rcases this with d | d
            · rw [d]; exact w6
            · rw [d]; exact w7
          · rw [(uM 96 (by decide)).1]
            exact x96
        have hq5 := hQ4.2.2.2.2
        refine ⟨0, M13, nI (sm (cN P) (cM P)), M', eL, ?_, ?_, k0, fun _ => ?_⟩
        · show f_X12_load Z M13 (nI n) = _
          rw [rl, q2, cl_some, e5]
        · refine Inv.mk ⟨?_, by rw [p9]; exact k9, by rw [p9]; omega, fun i hi => absurd hi (by rw [p9]; omega)⟩ ⟨?_, ?_⟩ (hI.it.to (uB 105 (by decide) (by decide) (by decide)).1 k31 (uB 106 (by decide) (by decide) (by decide)).1 (uB 123 (by decide) (by decide) (by decide)).1) (hI.is.to (uB 37 (by decide) (by decide) (by decide)).2) (hI.ih.to (uB 92 (by decide) (by decide) (by decide)).2 (uB 33 (by decide) (by decide) (by decide)).1 (uB 34 (by decide) (by decide) (by decide)).1) (Or.inr hH)
          · rw [uA 1 (by decide) (by decide), k9]
            exact e11
          · obtain ⟨qq, _, qb, _⟩ := hq5
            rw [uA 21 (by decide) (by decide), w4]
            exact qb.2.1
          · obtain ⟨qq, _, qb, _⟩ := hq5
            rw [uA 21 (by decide) (by decide), w5]
            exact qb.2.2
        · rw [(uM 124 (by decide)).2.2, l13, cnt]
      · exfalso
        have := (Prod.mk.inj (Option.some.inj (k2.symm.trans k1))).1
        exact absurd this (by decide)
    · -- wrong
      have F4 : fr lP M (sI C1 1 1 (0 : Int32)) := fr_sI F1 (by decide)
      have e4 : ∀ o, o ≠ 1 → gI (sI C1 1 1 (0 : Int32)) o = gI C1 o := fun o ho => by rw [gI_sI', if_neg ho]
      have e11 : gI (sI C1 1 1 (0 : Int32)) 1 1 = nI 0 := by rw [gI_sI, if_pos ⟨rfl, rfl⟩]; rfl
      have eL : f_L_load Z M (nI n) = some (2, sI C1 1 1 (0 : Int32)) := by
        unfold f_L_load
        rw [loadC_in b0 b3 hn, k1, cl_some, bd_eq, if_pos rfl, clT_err, if_neg (by decide), if_pos rfl]
      generalize sI C1 1 1 (0 : Int32) = M13 at *
      have f9 : fr [108] M13 (sI (T0 M13) 108 9 (0 : Int32)) := fr_sI (fr_sI fr.rfl (by decide)) (by decide)
      have n9 : gI (sI (T0 M13) 108 9 (0 : Int32)) 108 9 = nI 0 := by rw [gI_sI, if_pos ⟨rfl, rfl⟩]; rfl
      have n0 : gI (sI (T0 M13) 108 9 (0 : Int32)) 108 0 = 0 := by rw [gI_sI, if_neg (by decide)]; exact T0_0
      have nk : ∀ k, k ≠ 0 → k ≠ 9 → gI (sI (T0 M13) 108 9 (0 : Int32)) 108 k = gI M 108 k := fun k a b => by
        unfold T0
        rw [gI_sI, if_neg (fun z => b z.2), gI_sI, if_neg (fun z => a z.2), F4.I (by decide)]
      have rl : f_X12_load Z M13 (nI n) = cl (f_X12_reads Z (sI (T0 M13) 108 9 (0 : Int32)) (nI n)) (fun _ M10 => rLoad Z M10) := by
        rw [loadR_eq (by rw [F4.I (by decide)]; exact b2) b3, if_pos c]
      generalize sI (T0 M13) 108 9 (0 : Int32) = Mr at *
      rcases sim Mr (by rw [f9.I (by decide), F4.I (by decide)]) with ⟨e, Q, C2, R2, k2, q2, g2, V2, z2, _, G2⟩ | ⟨c1, p, C2, R2, k2, q2, oC, oR, _, G2⟩
      · exfalso
        have := (Prod.mk.inj (Option.some.inj (k2.symm.trans k1))).1
        exact absurd this (by decide)
      · have ec : C2 = C1 := (Prod.mk.inj (Option.some.inj (k2.symm.trans k1))).2
        subst ec
        have R0 : gI R2 108 0 = 0 := by rw [G2.2 0 (by decide) (by decide)]; exact n0
        have e5 := rLoad_wrong (Z := Z) oR R0
        have f5 : fr [108] R2 (sI (sI (sI R2 108 10 (nI c1)) 108 11 (nI p)) 108 0 2) := fr_sI (fr_sI (fr_sI fr.rfl (by decide)) (by decide)) (by decide)
        have w0 : gI (sI (sI (sI R2 108 10 (nI c1)) 108 11 (nI p)) 108 0 2) 108 0 = 2 := by rw [gI_sI, if_pos ⟨rfl, rfl⟩]
        have w10 : gI (sI (sI (sI R2 108 10 (nI c1)) 108 11 (nI p)) 108 0 2) 108 10 = nI c1 := by rw [gI_sI, if_neg (by decide), gI_sI, if_neg (by decide), gI_sI, if_pos ⟨rfl, rfl⟩]
        have w11 : gI (sI (sI (sI R2 108 10 (nI c1)) 108 11 (nI p)) 108 0 2) 108 11 = nI p := by rw [gI_sI, if_neg (by decide), gI_sI, if_pos ⟨rfl, rfl⟩]
        have wk : ∀ k, k ≠ 0 → k ≠ 10 → k ≠ 11 → gI (sI (sI (sI R2 108 10 (nI c1)) 108 11 (nI p)) 108 0 2) 108 k = gI R2 108 k := fun k a b d => by rw [gI_sI, if_neg (fun z => a z.2), gI_sI, if_neg (fun z => d z.2), gI_sI, if_neg (fun z => b z.2)]
        generalize sI (sI (sI R2 108 10 (nI c1)) 108 11 (nI p)) 108 0 2 = M' at *
        have F : fr [108, 113, 115] M13 M' := ((f9.mono (by decide)).trans G2.1).trans (f5.mono (by decide))
        have K : ∀ k, k ∉ kQ → k ≠ 12 → k ≠ 0 → k ≠ 9 → k ≠ 10 → k ≠ 11 → gI M' 108 k = gI M 108 k := fun k a b d e f g => by rw [wk k d f g, G2.2 k a b, nk k d e]
        have hf : ∀ o, o ∉ scrH → gI M' o = gI M o ∧ gL M' o = gL M o ∧ gR M' o = gR M o := fun o ho => by
          have a1 : o ∉ [108, 113, 115] := fun z => ho (fQ2_H o z)
          have a2 : o ∉ lP := fun z => ho (lP_H o z)
          rw [F.I a1, F.L a1, F.R a1, F4.I a2, F4.L a2, F4.R a2]
          exact ⟨rfl, rfl, rfl⟩
        have khm : kh M M' := kh.f hf (K 1 (by decide) (by decide) (by decide) (by decide) (by decide) (by decide)) (K 4 (by decide) (by decide) (by decide) (by decide) (by decide) (by decide))
        refine ⟨2, M13, 0, M', eL, ?_, ?_, w0, fun z => absurd z (by decide)⟩
        · show f_X12_load Z M13 (nI n) = _
          rw [rl, q2, cl_some, e5]
        · refine hI.load hf ?_ ?_ ⟨?_, ?_⟩ (K 31 (by decide) (by decide) (by decide) (by decide) (by decide) (by decide)) (fun o ho => ?_) ?_ (hI.2.2.2.2.2.elim (fun h => Or.inl (h.kh khm)) (fun h => Or.inr (h.kh khm)))
          · rw [F.I (by decide)]
            exact e11
          · rw [wk 9 (by decide) (by decide) (by decide), G2.2 9 (by decide) (by decide)]
            exact n9
          · rw [F.I (by decide), e4 21 (by decide), w10]
            exact oC.1
          · rw [F.I (by decide), e4 21 (by decide), w11]
            exact oC.2
          · have a1 : o ∉ [108, 113, 115] := fun z => by simp at z; omega
            have a2 : o ∉ lP := fun z => by rw [lP_in] at z; omega
            rw [F.I a1, F4.I a2]
          · rw [F.R (by decide), F4.R (by decide)]
  · unfold f_L_load
    exact CK.er hI (e := 1) (c := 1) (w := 0) (loadC_no b0 b3 c) rfl (by decide) (by rw [loadR_eq b2 b3, if_neg c])
theorem b_law_1 {Z L a : Nat} {xs : Nat → Int32} {M : Mem} {j : Mem → Option Unit} (hZ : 4000 < Z) (hI : Inv M) (ha : a + 6 ≤ L) (hL : L ≤ 3072) (hj : ∀ M1, Inv M1 → j M1 = some ()) : f_law_1 Z L xs M (nI a) j = some () := by
  unfold f_law_1
  simp (disch := omega) only [i1, nI_add, rdX_n]
  generalize xs (a + 1) = p1
  exact (ck_load hZ hI p1).tail hj
