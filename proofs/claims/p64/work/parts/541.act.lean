/-! act -/
theorem law_act {Z b K LX : Nat} {xs : Nat → Int32} {P S : Nat → Int32} {wr : Nat → Nat} {M : Mem} (hZ : 60 < Z) (hL : LX < 2147483647) (h : LI b K P S wr M) (hb3 : b < 300) (hK9 : K < 800000) : ∃ b2 M' S' wr', f_L_act b Z LX xs M = some (b2, M') ∧ b ≤ b2 ∧ b2 ≤ b + 1 ∧ LI b2 (K + 8) P S' wr' M' := by
  obtain ⟨R, hRR⟩ : ∃ R : Option (Nat × Mem) → Prop, R = fun q => ∃ b2 M' S' wr', q = some (b2, M') ∧ b ≤ b2 ∧ b2 ≤ b + 1 ∧ LI b2 (K + 8) P S' wr' M' := ⟨_, rfl⟩
  suffices H : R (f_L_act b Z LX xs M) by rw [hRR] at H; exact H
  have hfin : ∀ b2 M' S' wr', b ≤ b2 → b2 ≤ b + 1 → LI b2 (K + 8) P S' wr' M' → R (some (b2, M')) := fun b2 M' S' wr' h1 h2 h3 => by rw [hRR]; exact ⟨b2, M', S', wr', rfl, h1, h2, h3⟩
  clear hRR
  have hN := h.C.N
  have hN4 := h.2.1.1
  have hb := h.2.1.2.2.1
  have hm := h.C.z.2.1
  have hm1 := h.C.1.2.2.2.1
  have hB3 := h.C.b.2
  unfold f_L_act f_L_act_s
  refine ifp_R (by decide) (next_L h (by omega) hL i0 rfl (a := 0) (c := 6) (by decide) (by decide) (fun v1 M1 _ hv1 h1 => bd_R ?_))
  rw [h1.P.1]
  refine ifp_R (by decide) (next_L h1 (by omega) hL i0 (by rw [i1, nI_sub (by omega)]) (a := 0) (c := cN P - 1) (by omega) (by omega) (fun x M2 _ hx' h2 => ?_))
  have hx : x < cN P := by omega
  have hmx := hm x
  have hmx1 := hm1 x hx
  rw [h2.mny hx]
  refine ifp_R (by decide) (next_L h2 (by omega) hL i0 (by rw [i1, nI_sub (by omega)]) (a := 0) (c := cM P x - 1) (by omega) (by omega) (fun a M3 _ ha' h3 => ?_))
  have ha : a < cM P x := by omega
  by_cases c2 : 2 ≤ v1
  · refine ifp_R (by rw [show (2 : Int32) = nI 2 from rfl, nI_ile (by decide) (by omega)]; exact c2) ?_
    refine jn_R (fun _ : Unit => True) (fun t12 _ => ?_) (fun j58 hj58 => ?_)
    · by_cases c3 : v1 = 3
      · refine ifp_R (by rw [c3]; rfl) (bd_R (bd_R ?_))
        have f5 : fr [109] M3 (sI M3 109 5 (nI x)) := fr_sI fr.rfl (by decide)
        obtain ⟨M5, e5, f6, h5⟩ := c_setStart hZ (h3.C.fr f5 (by decide)) hx
        exact ifp_R (by decide) (clT_R e5 (ifp_R h3.S.1.1.symm (ifp_R (by decide) (hfin b M5 _ wr (by omega) (by omega) ((act_start h3 hx f6 h5).mono (by omega))))))
      · refine ifn_R (by rw [show (3 : Int32) = nI 3 from rfl, nI_eqx (by omega) (by decide)]; exact c3) ?_
        by_cases c4 : v1 = 4
        · refine ifp_R (by rw [c4]; rfl) (bd_R ?_)
          refine ifp_R (by decide) (next_L h3 (by omega) hL i1 rfl (a := 1) (c := 4) (by decide) (by decide) (fun H M4 hH1 hH h4 => bd_R (bd_R ?_)))
          have f5 : fr [109] M4 (sI M4 109 3 (nI H)) := fr_sI fr.rfl (by decide)
          obtain ⟨M5, e5, f6, h5⟩ := c_setHorizon hZ (h4.C.fr f5 (by decide)) hH1 (by omega)
          rw [gI_sI, if_pos (show (109 : Nat) = 109 ∧ (3 : Nat) = 3 from ⟨rfl, rfl⟩)]
          exact ifp_R (by decide) (clT_R e5 (ifp_R h3.S.1.2.1.symm (ifp_R (by decide) (hfin b M5 _ wr (by omega) (by omega) ((act_horizon h4 hH f6 h5).mono (by omega))))))
        · refine ifn_R (by rw [show (4 : Int32) = nI 4 from rfl, nI_eqx (by omega) (by decide)]; exact c4) ?_
          by_cases c5 : v1 = 5
          · refine ifp_R (by rw [c5]; rfl) (ifp_R (by decide) (next_L h3 (by omega) hL i0 rfl (a := 0) (c := 1) (by decide) (by decide) (fun v M4 _ hv h4 => ?_)))
            refine jn_R (fun t25 : Int32 => ∃ u : Bool, t25 = bN u) (fun t25 ⟨u, hu⟩ => ?_) (fun j45 hj45 => ?_)
            · subst hu
              have r6 := (h4.R.1.1 x (by omega)).2.2.2.2
              have s6 := (shB_rows (b := b) (by omega) x (by omega)).2.2.2.2.2
              obtain ⟨q, hq, q1, q2⟩ := c_permit (Z := Z) (u := u) hZ h4.C hx ha
              refine rdQ_R rfl (by omega) (by decide) r6 s6 (rdI_R' (by omega) (by decide) (h4.S.2.2.1 x hx a ha) ?_)
              refine act238 hZ h4 hx ha hq u ?_
              by_cases cu : (u || anyB q a (cM P x)) = false
              · have uf : u = false := by
                  cases u with
                  | false => rfl
                  | true => exact absurd cu (by simp)
                have ep := q1 cu
                rw [uf] at ep
                have et : f_L_thrown_19 Z M4 (nI x) (nI a) (0 : Int32) = some (3, M4) := thr_of (e := 2) (x := f_X11_permit Z M4 (nI x) (nI a) (0 : Int32)) ep (by decide)
                refine ifp_R (by rw [cu]; rfl) (ifp_R (by decide) (cl_R1 et (ifp_R rfl (ifp_R (by decide) (hfin b M4 S wr (by omega) (by omega) (h4.mono (by omega)))))))
              · have cu' : (u || anyB q a (cM P x)) = true := (Bool.eq_false_or_eq_true _).resolve_right cu
                refine ifn_R (by rw [cu']; decide) (rdQ_R rfl (by omega) (by decide) r6 s6 ?_)
                have ew : ∀ (k : Mem → Option (Nat × Mem)), wrZ M4 (202 + x) 3 (nI a) (bN u) k = k (sI M4 (202 + x) a (bN u)) := fun k => by
                  unfold wrZ
                  rw [if_pos (inB_nI (by omega) (by omega)), nI_clamp (by omega), bN_vp]
                rw [ew]
                have f5 : fr [202 + x] M4 (sI M4 (202 + x) a (bN u)) := fr_sI fr.rfl (by simp)
                have h5 : HasC P S (sI M4 (202 + x) a (bN u)) := h4.C.fr f5 (by simp; omega)
                obtain ⟨q', hq', -, q2'⟩ := c_permit (Z := Z) (u := u) hZ h5 hx ha
                have eq9 : anyB q' a (cM P x) = anyB q a (cM P x) := by
                  have : ∀ m, m ≤ cM P x → anyB q' a m = anyB q a m := by
                    intro m
                    induction m with
                    | zero => intro _; rfl
                    | succ m ih =>
                      intro hm9
                      have e := (hq' m (by omega)).symm.trans (hq m (by omega))
                      have b1 : q' / 2 ^ m % 2 < 2 := Nat.mod_lt _ (by decide)
                      have b2 : q / 2 ^ m % 2 < 2 := Nat.mod_lt _ (by decide)
                      rw [nI_eqx (by omega) (by omega)] at e
                      rw [anyB, anyB, ih (by omega), e]
                  exact this _ (Nat.le_refl _)
                obtain ⟨M6, e6, f6, h6⟩ := q2' (by rw [eq9]; exact cu')
                exact ifp_R (by decide) (clT_R e6 (ifp_R rfl (ifp_R (by decide) (hfin b M6 _ wr (by omega) (by omega) ((act_permit h4 hx ha f6 h6).mono (by omega))))))
            · by_cases cv : v = 0
              · exact ifp_R (by rw [cv]; rfl) (hj45 1 ⟨true, rfl⟩)
              · exact ifn_R (nI_ne0 (by omega) (by omega)) (hj45 0 ⟨false, rfl⟩)
          · refine ifn_R (by rw [show (5 : Int32) = nI 5 from rfl, nI_eqx (by omega) (by decide)]; exact c5) ?_
            obtain ⟨M4, e4, hJ⟩ := l_go hZ h3
            refine ifp_R (by decide) (cl_R1 e4 ?_)
            have h4 : HasC P S M4 := h3.C.fr hJ.1 (by decide)
            obtain ⟨M5, e5, f5, h5⟩ := c_walk hZ h4
            have hz := h3.hz
            have g : ∀ o, 108 ≤ o → gI M5 o = gI M4 o := fun o ho => f5.I (up_l (by omega))
            refine ifp_R (by decide) (clT_R e5 (bd_R ?_))
            rw [g 109 (by decide), hJ.2.2.2.2.1]
            refine rdI_R' (show pn S 1 < 6 by omega) (by decide) ((congrFun (g 208 (by decide)) _).trans (hJ.2.2.2.2.2.1 _ (Nat.le_refl _))) (ifp_R rfl ?_)
            have eg := q_walkGain hZ h5 (Sw_wk h3.C.1 h3.C.s)
            rw [Sw_gain h3.C.1 h3.C.s] at eg
            exact ifp_R (by decide) (clT_R eg (ifp_R rfl (ifp_R (by decide) (hfin b M5 _ wr (by omega) (by omega) ((act_walk h3 hJ f5 h5).mono (by omega))))))
    · by_cases c22 : v1 = 2
      · refine ifp_R (by rw [c22]; rfl) (bd_R ?_)
        rw [h3.P.2.1]
        by_cases cB0 : cB P = 0
        · exact ifp_R (by rw [cB0]; decide) (hj58 () trivial)
        · refine ifn_R (by rw [show (0 : Int32) = nI 0 from rfl, nI_ile (by omega) (by decide)]; omega) (bd_R ?_)
          refine ifp_R (by decide) (next_L h3 (by omega) hL i0 (by rw [i1, nI_sub (by omega)]) (a := 0) (c := cB P - 1) (by omega) (by omega) (fun i M4 _ hi' h4 => ?_))
          have hi : i < cB P := by omega
          refine rdI_R' (by omega) (by decide) (h4.S.2.2.2.1 i hi) ?_
          refine ifp_R (by decide) (next_L h4 (by omega) hL i0 rfl (a := 0) (c := 200) (by decide) (by decide) (fun w M5 _ hw h5 => ?_))
          refine wrI_R rfl (show i < 3 by omega) (by decide) (rdI_R' (show i < 3 by omega) (by decide) gI_same ?_)
          have f5 : fr [110] M5 (sI M5 110 i (nI w)) := fr_sI fr.rfl (by decide)
          obtain ⟨M6, e6, f6, h6⟩ := c_setLimit hZ (h5.C.fr f5 (by decide)) hi (show w ≤ 9999 by omega)
          exact ifp_R (by decide) (clT_R e6 (ifp_R rfl (ifp_R (by decide) (hfin b M6 _ wr (by omega) (by omega) ((act_limit h5 hi f6 h6).mono (by omega))))))
      · exact ifn_R (by rw [show (2 : Int32) = nI 2 from rfl, nI_eqx (by omega) (by decide)]; exact c22) (hj58 () trivial)
  · refine ifn_R (by rw [show (2 : Int32) = nI 2 from rfl, nI_ile (by decide) (by omega)]; exact c2) (ifp_R (by decide) ?_)
    obtain ⟨M4, S', wr', e4, h4⟩ := rules_ok (xs := xs) hZ hL h3 hb3 (by omega) hx
    exact cl_R1 e4 (hfin (b + 1) M4 S' wr' (by omega) (by omega) (h4.mono (by omega)))
