theorem mx_le {n : Nat} {f : Nat → Int64} : (if f n ≤ mx n f then mx n f else f n) = mx (n + 1) f := by
  show _ = if f n < mx n f then mx n f else f n
  by_cases c : f n < mx n f
  · rw [if_pos c, if_pos (Int64.le_of_lt c)]
  · rw [if_neg c]
    by_cases d : f n ≤ mx n f
    · rw [if_pos d]
      exact (Int64.le_antisymm d (Int64.not_lt.mp c)).symm
    · rw [if_neg d]
theorem nI_nlt0 {a : Nat} (h : a < 2 ^ 31) : ¬ nI a < 0 := by
  rw [lt0, nI_toInt h]
  omega
theorem dn_step {H k : Nat} : nI H - nI k + (-1 : Int32) = nI H - nI (k + 1) := by
  rw [show nI (k + 1) = nI k + nI 1 from (nI_add k 1).symm, ← i1]
  grind
theorem dn_neg {H : Nat} : nI H - nI (H + 1) < 0 := by
  rw [show nI (H + 1) = nI H + nI 1 from (nI_add H 1).symm, ← i1, show nI H - (nI H + (1 : Int32)) = -1 by grind]
  decide
theorem laysAhead_ok {Z : Nat} {M : Mem} {P S : Nat → Int32} (hV : VP P) (hS : VS P S) (hP : gI M 112 = P) (hSM : gI M 109 = S) (hZ : 60 < Z) : OK (f_X12_laysAhead Z M) (fun v M' => fr [119] M M' ∧ v = CH (cN P) (Tp (cM P) (cP P) (sW S)) (pn S 1) (pn S 0) ∧ ∀ t, t ≤ pn S 1 → ∀ x, x < cN P → gL M' 119 (t * 6 + x) = CH (cN P) (Tp (cM P) (cP P) (sW S)) (pn S 1 - t) x) := by
  have hN := hV.2.1
  have h1 := hS.2.1.2.1
  have h5 := hS.2.1.2.2
  have hst := hS.1.2
  generalize hH : pn S 1 = H at h1 h5
  generalize hC : CH (cN P) (Tp (cM P) (cP P) (sW S)) = C
  have g9 : gI M 109 1 = nI H := by rw [hSM, hS.2.1.1, hH]
  have g0 : gI M 109 0 = nI (pn S 0) := by rw [hSM, hS.1.1]
  unfold f_X12_laysAhead
  rw [i1, rdI_n (by decide) (by decide), g9]
  obtain ⟨Q, hQ⟩ : ∃ Q : Int64 → Mem → Prop, Q = (fun (v : Int64) (M' : Mem) => fr [119] M M' ∧ v = C H (pn S 0) ∧ ∀ t, t ≤ H → ∀ x, x < cN P → gL M' 119 (t * 6 + x) = C (H - t) x) := ⟨_, rfl⟩
  rw [← hQ]
  generalize hkk : (fun (M23 : Mem) => rdI M23 109 54 (0 : Int32) (fun v24 => rdL M23 119 36 v24 (fun v25 => some (v25, M23)))) = kk
  rw [show nI H = nI H - nI 0 by rw [nI_sub (Nat.zero_le _), Nat.sub_zero]]
  refine lpS (fun n k M1 => f_X12_laysAhead_L7 Z kk n (nI H - nI k) M1) (fun r => OK r Q) (fun k M1 => fr [119] M M1 ∧ ∀ t, t ≤ H → H < t + k → ∀ x, x < cN P → gL M1 119 (t * 6 + x) = C (H - t) x) 0 (H + 1) (by omega) (by omega) ⟨fr.rfl, fun t ht h _ _ => absurd h (by omega)⟩ ?_ ?_
  · intro n k M1 _ hk ⟨f1, t1⟩ K
    rw [f_X12_laysAhead_L7, dn_step, nI_sub (show k ≤ H by omega), if_neg (nI_nlt0 (by omega)), i0]
    generalize hk2 : (fun (M22 : Mem) => f_X12_laysAhead_L7 Z kk n (nI H - nI (k + 1)) M22) = k2
    have K1 : ∀ M2, (fr [119] M M2 ∧ ∀ t, t ≤ H → H < t + (k + 1) → ∀ x, x < cN P → gL M2 119 (t * 6 + x) = C (H - t) x) → OK (k2 M2) Q := by rw [← hk2]; exact K
    refine lpS (fun n x M2 => f_X12_laysAhead_L13 Z (nI (H - k)) k2 n (nI x) M2) (fun r => OK r Q) (fun x M2 => fr [119] M M2 ∧ (∀ t, t ≤ H → H < t + k → ∀ x, x < cN P → gL M2 119 (t * 6 + x) = C (H - t) x) ∧ ∀ x', x' < x → gL M2 119 ((H - k) * 6 + x') = C k x') 0 (cN P) (by omega) (by omega) ⟨f1, t1, fun x' h => absurd h (by omega)⟩ ?_ ?_
    · intro n2 x M2 _ hx ⟨f2, t2, u2⟩ K2
      have hR := (hV.chR hP).fr f2 (by decide)
      have hSR := (hS.toSR hSM).fr f2 (by decide)
      have g92 : gI M2 109 1 = nI H := by rw [f2.I (by decide)]; exact g9
      rw [f_X12_laysAhead_L13]
      simp (disch := omega) only [hR.1, g92, if_neg (show ¬ cN P ≤ x by omega), nI_ile, jn_eq, i0, i1, rdI_n]
      generalize hk3 : (fun (y18 : Int64) (M19 : Mem) => wrL M19 119 36 (((6 : Int32) * nI (H - k)) + nI x) y18 (fun M20 => f_X12_laysAhead_L13 Z (nI (H - k)) k2 n2 (nI x + nI 1) M20)) = k3
      have K3 : OK (k3 (C k x) M2) Q := by
        rw [← hk3]
        simp (disch := omega) only [i6, nI_mul, nI_add, mc6, wrL_n]
        refine K2 _ ⟨fr_sL f2 List.mem_cons_self, fun t ht h x9 hx9 => ?_, fun x' h => ?_⟩
        · rw [gL_sL, if_neg (by omega)]
          exact t2 t ht h x9 hx9
        · rw [gL_sL]
          by_cases c : x' = x
          · rw [if_pos ⟨rfl, by rw [c]⟩, c]
          · rw [if_neg (by omega)]
            exact u2 x' (by omega)
      by_cases c : H - k = H
      · have hk0 : k = 0 := by omega
        subst hk0
        simp (disch := omega) only [Nat.sub_zero, if_true]
        obtain ⟨m, hm⟩ : ∃ m, Z = m + 1 := ⟨Z - 1, by omega⟩
        rw [show f_X12_laysAhead_L42 Z (nI H) (nI x) k3 Z = f_X12_laysAhead_L42 Z (nI H) (nI x) k3 (m + 1) by rw [← hm], f_X12_laysAhead_L42]
        simp (disch := omega) only [hR.1, g92, if_neg (show ¬ cN P ≤ 0 by omega), nI_ile, Nat.le_refl, if_true, i0, i1, rdI_n]
        rw [← hC] at K3
        exact K3
      · obtain ⟨k', rfl⟩ : ∃ k', k = k' + 1 := ⟨k - 1, by omega⟩
        rw [if_neg (by rw [nI_eqx (by omega) (by omega)]; exact c), show (0 : Int64) = mx 0 (fun y => lN (Tp (cM P) (cP P) (sW S) x y) * C k' y) from rfl]
        refine lpS (σ := Unit) (fun n y _ => f_X12_laysAhead_L42 Z (nI (H - (k' + 1))) (nI x) k3 n (mx y (fun y => lN (Tp (cM P) (cP P) (sW S) x y) * C k' y)) (nI y) M2) (fun r => OK r Q) (fun _ _ => True) 0 (cN P) (s := ()) (by omega) (by omega) trivial ?_ ?_
        · intro n3 y _ _ hy _ K4
          have K5 := K4 () trivial
          rw [← mx_le] at K5
          have hb := Tp_le hV hS hx hy
          have c1 : gL M2 119 ((H - (k' + 1) + 1) * 6 + y) = C k' y := by
            rw [t2 (H - (k' + 1) + 1) (by omega) (by omega) y hy, show H - (H - (k' + 1) + 1) = k' by omega]
          rw [f_X12_laysAhead_L42]
          simp (disch := omega) only [hR.1, g92, if_neg (show ¬ cN P ≤ y by omega), if_neg (show ¬ H ≤ H - (k' + 1) by omega), nI_ile, stepOf_eq hR hV.sz (show 10 < Z by omega) hSR (show x < 6 by omega) (show y < 6 by omega), cl_some, i0, i1, i6, mc6, nI_add, nI_mul, rdI_n, rdL_n, c1, nI_l]
          by_cases d : lN (Tp (cM P) (cP P) (sW S) x y) * C k' y ≤ mx y (fun y => lN (Tp (cM P) (cP P) (sW S) x y) * C k' y)
          · rw [if_pos d] at K5 ⊢
            exact K5
          · rw [if_neg d] at K5 ⊢
            exact K5
        · intro n3 _ _
          rw [f_X12_laysAhead_L42]
          simp (disch := omega) only [hR.1, ge_self, if_true, i0, rdI_n]
          rw [← hC] at K3 ⊢
          exact K3
    · intro n2 M2 ⟨f2, t2, u2⟩
      have hR := (hV.chR hP).fr f2 (by decide)
      rw [f_X12_laysAhead_L13]
      simp (disch := omega) only [hR.1, ge_self, if_true, i0, rdI_n]
      refine K1 M2 ⟨f2, fun t ht h x hx => ?_⟩
      by_cases c : t = H - k
      · rw [c, u2 x hx, show H - (H - k) = k by omega]
      · exact t2 t ht (by omega) x hx
  · intro n M1 ⟨f1, t1⟩
    rw [f_X12_laysAhead_L7, if_pos dn_neg, ← hkk]
    simp (disch := omega) only [i0, rdI_n, f1.I (show 109 ∉ [119] by decide), g0, rdL_n]
    rw [hQ]
    refine OK.ret ⟨f1, ?_, fun t ht x hx => t1 t ht (by omega) x hx⟩
    have := t1 0 (by omega) (by omega) (pn S 0) hst
    rw [show 0 * 6 + pn S 0 = pn S 0 by omega, Nat.sub_zero] at this
    exact this
theorem ok_likeliest {Z : Nat} (hZ : 4000 < Z) {M : Mem} (hI : Inv M) (h : Has M) : OKc (f_X11_likeliest Z M) (fun M => f_X12_likeliest Z M) (fun v => v) (fun v => v) := by
  have hN := h.N
  have hz := h.hz
  obtain ⟨M1, e1, q1, q2, q3, q4, q5, q6, q7, q8, q9⟩ := fl_both (Z := Z) (by omega) hI h
  obtain ⟨v, M2, e2, f2, hv⟩ := greatestChance_ok (Z := Z) (M := M1) (by rw [q1.I (by decide)]; exact h.c.1) hN.2 (by omega) q4 q2 q3 h.st.2 hz.2.2.1 hz.2.2.2
  have k2 : kp M1 M2 := kp.of f2 (by decide)
  have g1 : Inv (sL M2 124 0 v) := (q6.kp k2).kp out_kp
  have g2 : Has (sL M2 124 0 v) := (q7.kp k2).out
  obtain ⟨w, M3, e3, r1, hw, r2⟩ := laysAhead_ok (Z := Z) (M := T0 (sL M2 124 0 v)) h.2.1 h.VS (by rw [T0_I (by decide), Has.s112, f2.I (by decide), q8]) (by rw [T0_I (by decide), Has.s109, f2.I (by decide), q9]) (by omega)
  refine ⟨v, w, M2, M3, ?_, ?_, (g1.kp T0.kp).kp (kp.of r1 (by decide)), ?_, ?_⟩
  · unfold f_X11_likeliest
    rw [h.nC, clT_ok, e1, cl_some, e2, cl_some]
  · show f_X12_likeliest Z (sL M2 124 0 v) = _
    unfold f_X12_likeliest
    rw [g2.rC, cl_some, if_pos rfl, e3, cl_some]
  · rw [r1.I (by decide)]
    exact T0_0
  · rw [r1.L (by decide), T0_L, gL_sL, if_pos ⟨rfl, rfl⟩, hv, hw]
theorem ck_likeliest {Z : Nat} {M : Mem} (hZ : 4000 < Z) (hI : Inv M) : CK (f_L_likeliest Z M) (fun M => f_X12_likeliest Z M) (fun v => v) := by
  unfold f_L_likeliest
  rcases hI.2.2.2.2.2 with h | h
  · exact CK.er hI (e := 0) (c := 1) (w := 0) (by unfold f_X11_likeliest; rw [needChain0 h.2.1]; rfl) rfl (by decide) (by unfold f_X12_likeliest; rw [noChain0 h.1]; rfl)
  · exact CK.mk (cv := fun v => v) (ok_likeliest hZ hI h)
theorem b_law_32 {Z L a : Nat} {xs : Nat → Int32} {M : Mem} {j : Mem → Option Unit} (hZ : 4000 < Z) (hI : Inv M) (ha : a + 6 ≤ L) (hL : L ≤ 3072) (hj : ∀ M1, Inv M1 → j M1 = some ()) : f_law_32 Z L xs M (nI a) j = some () := by
  unfold f_law_32
  exact (ck_likeliest hZ hI).tail hj
theorem ok_likeliestAt {Z : Nat} (hZ : 4000 < Z) {M : Mem} (hI : Inv M) (h : Has M) {t : Nat} (ht : t < pn (gI M 109) 1 + 1) : OKc (f_X11_likeliestAt Z M (nI t)) (fun M => f_X12_likeliestAt Z M (nI t)) (·.toInt64) (·.toInt64) := by
  have hN := h.N
  have hz := h.hz
  have hTb : ∀ x y, x < cN (gI M 112) → y < cN (gI M 112) → Tp (cM (gI M 112)) (cP (gI M 112)) (sW (gI M 109)) x y ≤ 1000 := fun x y hx hy => Tp_le h.2.1 h.VS hx hy
  obtain ⟨M1, e1, q1, q2, q3, q4, q5, q6, q7, q8, q9⟩ := fl_both (Z := Z) (by omega) hI h
  obtain ⟨v, M2, e2, f2, hv⟩ := stateOfLikeliest_ok (Z := Z) (M := M1) (t := t) (by rw [q1.I (by decide)]; exact h.c.1) hN.1 hN.2 (by omega) hTb q4 q2 q3 h.st.2 hz.2.2.1 hz.2.2.2 (by omega)
  have k2 : kp M1 M2 := kp.of f2 (by decide)
  have g1 : Inv (sL M2 124 0 v.toInt64) := (q6.kp k2).kp out_kp
  have g2 : Has (sL M2 124 0 v.toInt64) := (q7.kp k2).out
  have j112 : gI (T0 (sL M2 124 0 v.toInt64)) 112 = gI M 112 := by rw [T0_I (by decide), Has.s112, f2.I (by decide), q8]
  have j109 : gI (T0 (sL M2 124 0 v.toInt64)) 109 = gI M 109 := by rw [T0_I (by decide), Has.s109, f2.I (by decide), q9]
  obtain ⟨w, M3, e3, r1, hw, r2⟩ := laysAhead_ok (Z := Z) h.2.1 h.VS j112 j109 (by omega)
  have hR := (h.2.1.chR j112).fr r1 (by decide)
  have hSR := (h.VS.toSR j109).fr r1 (by decide)
  refine ⟨v, v, M2, M3, ?_, ?_, (g1.kp T0.kp).kp (kp.of r1 (by decide)), ?_, ?_⟩
  · unfold f_X11_likeliestAt
    rw [h.nT, if_pos (inR_of ht (by omega)), clT_ok, e1, cl_some, e2, cl_some]
  · show f_X12_likeliestAt Z (sL M2 124 0 v.toInt64) (nI t) = _
    unfold f_X12_likeliestAt
    rw [g2.rC, cl_some, if_pos rfl, g2.iT, cl_some, rfz T0_0 (by decide), if_pos (by rw [Has.s109, f2.I (by decide), q9]; exact inR_of ht (by omega)), if_pos rfl, e3, cl_some, i0, rdI_n (by decide) (by decide), hSR.1, hv]
    generalize hT : Tp (cM (gI M 112)) (cP (gI M 112)) (sW (gI M 109)) = T at hTb r2
    have hst := h.st.2
    generalize hN9 : cN (gI M 112) = N at hN hTb r2 hst
    generalize hH9 : pn (gI M 109) 1 = H at ht r2
    have h5 : H ≤ 5 := by rw [← hH9]; exact hz.2.2.2
    generalize pn (gI M 109) 0 = st at hst
    refine lpS (σ := Unit) (fun n k _ => f_X12_likeliestAt_L44 Z (nI t) n (nI (sq N T st H k)) (nI k) M3) (fun r => r = some (nI (sq N T st H t), M3)) (fun _ _ => True) 0 t (s := ()) (by omega) (by omega) trivial ?_ ?_
    · intro n k _ _ hk _ K
      have K1 := K () trivial
      have hx := sq_lt (T := T) (H := H) hst k
      have e9 : sq N T st H (k + 1) = nxt N T (H - (k + 1)) (sq N T st H k) := rfl
      rw [e9] at K1
      generalize sq N T st H k = x at hx K1
      have hlt := nxt_lt (T := T) (k := H - (k + 1)) (x := x) hN.1
      have hc : ∀ y, y < N → f_X12_stepOf Z M3 (nI x) (nI y) = some (nI (T x y), M3) := fun y hy => by
        rw [stepOf_eq hR h.z (by omega) hSR (by omega) (by omega), hT]
      have hv1 : ∀ y, y < N → gL M3 119 ((k + 1) * 6 + y) = lN (CN N T (H - (k + 1)) y) := fun y hy => by
        rw [r2 (k + 1) (by omega) y hy, CH_lN hTb _ (by omega) y hy]
      have hv2 : gL M3 119 (k * 6 + x) = lN (CN N T (H - (k + 1) + 1) x) := by
        rw [r2 k (by omega) x hx, show H - k = H - (k + 1) + 1 by omega, CH_lN hTb _ (by omega) x hx]
      have hcb : CN N T (H - (k + 1) + 1) x < 2 ^ 63 := by
        have h1 := CN_le hTb (H - (k + 1) + 1) x hx
        have h2 := p1000 (k := H - (k + 1) + 1) (by omega)
        omega
      rw [f_X12_likeliestAt_L44]
      simp (disch := omega) only [if_neg (show ¬ t ≤ k by omega), nI_ile, i0]
      generalize hkk : (fun (y21 : Int32) (M22 : Mem) => f_X12_likeliestAt_L44 Z (nI t) n y21 (nI k + (1 : Int32)) M22) = kk
      refine lpS (σ := Unit) (fun n y _ => f_X12_likeliestAt_L52 Z (nI t) (nI x) (nI k) kk n (nI y) M3) (fun r => r = some (nI (sq N T st H t), M3)) (fun _ _ => True) 0 (nxt N T (H - (k + 1)) x) (s := ()) (by omega) (by omega) trivial ?_ ?_
      · intro n2 y _ _ hy _ K2
        have hb := CHb hTb hx (show y < N by omega) (show H - (k + 1) ≤ 5 by omega)
        have hb2 := hTb x y hx (by omega)
        rw [f_X12_likeliestAt_L52]
        simp (disch := omega) only [hc y (by omega), cl_some, i1, i6, mc6, nI_mul, nI_add, rdL_n, hv1 y (by omega), hv2, nI_l, lN_mul, lN_eqx, if_neg (nxt_ne hy)]
        exact K2 () trivial
      · intro n2 _ _
        have hb := CHb hTb hx hlt (show H - (k + 1) ≤ 5 by omega)
        have hb2 := hTb x _ hx hlt
        rw [f_X12_likeliestAt_L52]
        simp (disch := omega) only [hc _ hlt, cl_some, i1, i6, mc6, nI_mul, nI_add, rdL_n, hv1 _ hlt, hv2, nI_l, lN_mul, lN_eqx, if_pos (nxt_eq (T := T) (k := H - (k + 1)) (x := x) hN.1)]
        rw [← hkk, i1, nI_add]
        exact K1
    · intro n _ _
      rw [f_X12_likeliestAt_L44]
      simp only [ge_self, if_true]
  · rw [r1.I (by decide)]
    exact T0_0
  · rw [r1.L (by decide), T0_L, gL_sL, if_pos ⟨rfl, rfl⟩]
theorem ck_likeliestAt {Z : Nat} {M : Mem} (hZ : 4000 < Z) (hI : Inv M) (p1 : Int32) : CK (f_L_likeliestAt Z M p1) (fun M => f_X12_likeliestAt Z M p1) (·.toInt64) := by
  unfold f_L_likeliestAt
  rcases hI.2.2.2.2.2 with h | h
  · exact CK.er hI (e := 0) (c := 1) (w := 0) (by unfold f_X11_likeliestAt; rw [needTime0 h.2.1]; rfl) rfl (by decide) (by unfold f_X12_likeliestAt; rw [noChain0 h.1]; rfl)
  · by_cases hp : inR p1 (pn (gI M 109) 1 + 1)
    · obtain ⟨t, ht, rfl⟩ := inR_nI hp
      exact CK.mk (ok_likeliestAt hZ hI h ht)
    · exact CK.er hI (e := 2) (c := 2) (w := 0) (by unfold f_X11_likeliestAt; rw [h.nT, if_neg hp]; rfl) rfl (by decide) (by unfold f_X12_likeliestAt; rw [h.rC, cl_some, if_pos rfl, h.iT, cl_some, rfz T0_0 (by decide), if_neg hp]; rfl)
theorem b_law_33 {Z L a : Nat} {xs : Nat → Int32} {M : Mem} {j : Mem → Option Unit} (hZ : 4000 < Z) (hI : Inv M) (ha : a + 6 ≤ L) (hL : L ≤ 3072) (hj : ∀ M1, Inv M1 → j M1 = some ()) : f_law_33 Z L xs M (nI a) j = some () := by
  unfold f_law_33
  simp (disch := omega) only [i1, nI_add, rdX_n]
  generalize xs (a + 1) = p1
  exact (ck_likeliestAt hZ hI p1).tail hj
