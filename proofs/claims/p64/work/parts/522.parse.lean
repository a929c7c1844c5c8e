/-! the class parses the law's text -/
theorem start_fwd {Z : Nat} {b : Nat → Nat} {n st : Nat} {Q : Nat → Int32} {M : Mem} {t : List Nat} (hZ : 4000 < Z) (hV : VQ Q) (h2 : Q 2 = nI 0) (hst : st < cN Q) (ht : t = [] ∧ st = 0 ∨ t = WL.getD 20 [] ++ dgs st) (h : PA b n (t ++ []) Q M) : ∃ M' Q' j, j ≤ 1 ∧ (∀ k fu i, i < 1200 → f_X4_parse_L48 Z k (fu + j) (nI i) M = f_X4_parse_L48 Z k fu (nI (i + j)) M') ∧ fr lP M M' ∧ PA b n [] Q' M' ∧ VQ Q' ∧ Q' = upd Q 2 (nI st) := by
  have hW := hV.1
  have hN := hW.N
  rcases ht with ⟨h0, hs0⟩ | ht
  · subst h0
    subst hs0
    have e : Q = upd Q 2 (nI 0) := by
      funext i
      by_cases c : i = 2
      · rw [c, upd_eq, h2]
      · rw [upd_ne c]
    exact ⟨M, Q, 0, by omega, fun _ _ _ _ => rfl, fr.rfl, h, hV, e⟩
  · obtain ⟨hA, hq, hw, -⟩ := h
    rw [ht, WL20] at hA
    simp only [List.append_assoc, List.cons_append, List.append_nil] at hA
    suffices H : ∃ M', (∀ k fu i, i < 1200 → f_X4_parse_L48 Z k (fu + 1) (nI i) M = f_X4_parse_L48 Z k fu (nI (i + 1)) M') ∧ fr lP M M' ∧ PA b n [] (upd Q 2 (nI st)) M' ∧ VQ (upd Q 2 (nI st)) by
      obtain ⟨M', e, f, p, v⟩ := H
      exact ⟨M', _, 1, Nat.le_refl _, e, f, p, v, rfl⟩
    refine line_R hZ hA (fun M1 f1 _ a1 => ?_)
    have w4 := isA hZ a1 (by decide) (l := 4) (by decide) (by rfl)
    have w5 := isA hZ a1 (by decide) (l := 5) (by decide) (by rfl)
    have w8 := isA hZ a1 (by decide) (l := 8) (by decide) (by rfl)
    unfold f_X4_parseLine
    rw [w4, cl_some, if_pos (by decide), w5, cl_some, if_pos (by decide), w8, cl_some, if_pos (by decide)]
    unfold f_X4_parseStart
    obtain ⟨M2, k2, f2, a2⟩ := wordA hZ a1 (by decide) (by rfl)
    have a2' : AtT b n (sp 1 ++ (dgs st ++ [])) M2 := by rw [List.append_nil]; exact a2
    obtain ⟨M3, k3, f3, g3, a3⟩ := stAt (Z := Z) (Q := Q) (i := 1) a2' (((hq.fP f1).fP f2).1.1.trans hN.1) hN.2 hst (by rfl)
    have q4 := (((hq.fP f1).fP f2).fP f3).updS (j := 2) (v := nI st) hW.T (by decide)
    have w4' : CQW (upd Q 2 (nI st)) (sI M3 29 3 (nI st)) := (((hw.fP f1).fP f2).fP f3).updL (by decide) (by rw [gI_sI', if_neg (by decide)])
    have W4 : VW (upd Q 2 (nI st)) := hW.put (by decide) (by rw [mxq2]; omega)
    have a4 := a3.s (o := 29) (k := 3) (v := nI st) (by decide) (by decide)
    have F4 : fr lP M (sI M3 29 3 (nI st)) := fr_sI ((f1.p.trans f2.p).trans f3.p) (by decide)
    generalize hM4 : sI M3 29 3 (nI st) = M4 at *
    obtain ⟨M5, k5, f5, -, a5⟩ := advN hZ a4 (by omega) (by rfl)
    refine ⟨M5, ?_, F4.trans f5.p, ⟨a5, q4.fP f5, w4'.fP f5, W4⟩, ?_⟩
    · rw [k2, cl_some, if_neg (by decide), k3, cl_some, if_neg (by decide), bd_eq, g3, bd_eq]
      rw [hM4, k5, cl_some, cl_some, if_pos (by decide)]
    · refine hV.of2 W4 (fun i hi => upd_ne (by omega)) (upd_ne (by decide)) (upd_ne (by decide)) ?_
      rw [pn_n upd_eq (by omega)]
      exact hst
theorem beginC {Z : Nat} {Mc : Mem} {b : Nat → Nat} {n : Nat} (hZ : 4000 < Z) (hn : n ≤ 1200) (hC : ∀ i, i < n → b i < 256 ∧ gI Mc 2 i = bySg (b i)) : ∃ C0, fr lP Mc C0 ∧ okC b n 0 C0 ∧ (∀ Q : Nat → Int32, (∀ i, i < 344 → Q i = nI 0) → CQ0 Q C0 ∧ CQW Q C0) ∧ f_X4_parse Z Mc (nI n) = cl (f_X4_parseHead Z C0) (fun v10 M11 => (if v10 = 0 then some ((0 : Int32), M11) else f_X4_parse_L48 Z (kC Z) Z (0 : Int32) M11)) := by
    have f0 : fr [21] Mc (sI (sI (sI Mc 21 2 (0 : Int32)) 21 3 (-1 : Int32)) 21 6 (0 : Int32)) := fr_sI (fr_sI (fr_sI fr.rfl (by decide)) (by decide)) (by decide)
    have q0 : gI (sI (sI (sI Mc 21 2 (0 : Int32)) 21 3 (-1 : Int32)) 21 6 (0 : Int32)) 21 6 = nI 0 ∧ gI (sI (sI (sI Mc 21 2 (0 : Int32)) 21 3 (-1 : Int32)) 21 6 (0 : Int32)) 21 2 = 0 ∧ gI (sI (sI (sI Mc 21 2 (0 : Int32)) 21 3 (-1 : Int32)) 21 6 (0 : Int32)) 21 3 = -1 := by
      refine ⟨?_, ?_, ?_⟩
      · rw [gI_sI, if_pos ⟨rfl, rfl⟩]; rfl
      · rw [gI_sI, if_neg (by decide), gI_sI, if_neg (by decide), gI_sI, if_pos ⟨rfl, rfl⟩]
      · rw [gI_sI, if_neg (by decide), gI_sI, if_pos ⟨rfl, rfl⟩]
    have un : f_X4_parse Z Mc (nI n) = cl (f_X0_clear Z (sI (sI (sI Mc 21 2 (0 : Int32)) 21 3 (-1 : Int32)) 21 6 (0 : Int32)) (22)) (fun v4 M5 => cl (f_X7_clear Z M5 (29)) (fun v6 M7 => cl (f_X2_begin Z M7 (nI n)) (fun v8 M9 => cl (f_X4_parseHead Z M9) (fun v10 M11 => (if v10 = 0 then some ((0 : Int32), M11) else f_X4_parse_L48 Z (kC Z) Z (0 : Int32) M11))))) := rfl
    generalize sI (sI (sI Mc 21 2 (0 : Int32)) 21 3 (-1 : Int32)) 21 6 (0 : Int32) = M0 at *
    obtain ⟨M1, e1, f1, c1, c2, c3, c4, c5, c6, c7⟩ := clearC (M := M0) hZ
    obtain ⟨M2, e2, f2, s1, s2, s3, s4⟩ := clearS (M := M1) hZ
    have f3 : fr [1] M2 (sI (sI M2 1 2 (nI n)) 1 5 (0 : Int32)) := fr_sI (fr_sI fr.rfl (by decide)) (by decide)
    have b2 : gI M2 2 = gI Mc 2 := by rw [f2.I (by decide), f1.I (by decide), f0.I (by decide)]
    have B3 : BC b n (sI (sI M2 1 2 (nI n)) 1 5 (0 : Int32)) := by
      refine ⟨hn, by rw [gI_sI, if_neg (by decide), gI_sI, if_pos ⟨rfl, rfl⟩], fun i hi => ?_⟩
      rw [f3.I (by decide), b2]
      exact hC i hi
    obtain ⟨M4, e4, f4, B4, T4⟩ := advance_ok (Z := Z) (e := 0) hZ B3 (Nat.zero_le _) (by rw [gI_sI, if_pos ⟨rfl, rfl⟩]; rfl)
    have be : f_X2_begin Z M2 (nI n) = some ((), M4) := by
      unfold f_X2_begin
      rw [bd_eq, if_neg (show ¬ (1200 : Int32) < nI n by rw [show (1200 : Int32) = nI 1200 from rfl, nI_ilt (by decide) (by omega)]; omega), bd_eq, bd_eq, e4, cl_some]
    have f24 : fr [1] M2 M4 := f3.trans f4
    refine ⟨M4, (((f0.mono (by decide)).trans (f1.mono (by decide))).trans (f2.mono (by decide))).trans (f24.mono (by decide)), ⟨B4, T4, Nat.zero_le _⟩, fun Q hQ => ⟨⟨⟨?_, ?_, fun x hx => ?_, fun r hr => ?_, fun k hk => ?_, fun k hk => ?_, fun r hr => ?_, fun r hr k hk => ?_⟩, ⟨?_, ?_, ?_, ?_⟩, fun k hk => ?_, fun x hx => ?_, 0, by decide, ?_, fun x hx => ?_⟩, fun x hx a ha => ?_⟩, ?_⟩
    · rw [f24.I (by decide), f2.I (by decide), hQ 0 (by decide)]; exact c1.1
    · rw [f24.I (by decide), f2.I (by decide), hQ 1 (by decide)]; exact c1.2
    · rw [f24.I (by decide), f2.I (by decide), hQ _ (by omega)]; exact c2 x hx
    · rw [f24.I (by decide), f2.I (by decide), hQ _ (by omega)]; exact c3 r hr
    · rw [f24.I (by decide), f2.I (by decide), hQ _ (by omega)]; exact c4 k hk
    · rw [f24.I (by decide), f2.I (by decide), hQ _ (by omega)]; exact c5 k hk
    · rw [f24.I (by decide), f2.I (by decide), hQ _ (by omega)]; exact c7 r hr
    · unfold cT at hk
      rw [if_pos hr, pn_n (hQ (194 + r) (by omega)) (by decide)] at hk
      exact absurd hk (by omega)
    · rw [f24.I (by decide), hQ 2 (by decide)]; exact s1.1
    · rw [f24.I (by decide), hQ 3 (by decide)]; exact s1.2.1
    · rw [f24.I (by decide), hQ 4 (by decide)]; exact s1.2.2.1
    · rw [f24.I (by decide)]; exact s1.2.2.2
    · rw [f24.I (by decide), hQ _ (by omega)]; exact s4 k hk
    · rw [f24.I (by decide)]; exact s3 x hx
    · rw [f24.I (by decide), f2.I (by decide), f1.I (by decide)]
      exact q0
    · rw [hQ _ (by omega), Nat.zero_div, Nat.zero_mod]
    · rw [f24.I (by decide), hQ (320 + x) (by omega), if_neg (by decide)]
      exact s2 x hx a ha
    · rw [un, e1, cl_some, e2, cl_some, be, cl_some]
/-- the row that was read beside the law's chain -/
def RLw (ML : Mem) (P : Nat → Int32) (nn nb h s st : Nat) : Prop := cN P = nn ∧ cB P = nb ∧ (P 2 = nI st ∧ P 3 = nI h ∧ P 4 = nI s) ∧ (∀ j, j < nb → P (5 + j) = gI ML 110 j) ∧ ∀ y, y < nn → StQ ML P y
theorem parse_ok {Z : Nat} {M ML : Mem} {b : Nat → Nat} {n nn nb h s st : Nat} {t1 t2 t3 : List Nat} (hZ : 4000 < Z) (hn : n ≤ 1200) (hC : ∀ i, i < n → b i < 256 ∧ gI M 2 i = bySg (b i)) (hI : Ini ML nn nb h s st t1 t2 t3) (hT : Tq b n 0 (WL.getD 10 [] ++ dgs nn ++ WL.getD 11 [] ++ dgs h ++ WL.getD 12 [] ++ dgs s ++ t1 ++ t2 ++ t3)) : ∃ M' P, f_X4_parse Z M (nI n) = some (1, M') ∧ fr lP M M' ∧ CQ0 P M' ∧ CQW P M' ∧ VQ P ∧ (∀ x, x < cN P → cM P x ≠ 0) ∧ RLw ML P nn nb h s st := by
  obtain ⟨⟨⟨hn1, hn4⟩, hnb, ⟨hh1, hh⟩, hs⟩, -, -, hB, hS, ⟨hst, -, hst3⟩, -⟩ := hI
  obtain ⟨C0, F0, o0, q0, eC⟩ := beginC hZ hn hC
  obtain ⟨qz, wz⟩ := q0 (fun _ => nI 0) (fun _ _ => rfl)
  have hst3' : t3 ++ [] = [] ∨ ∃ s', t3 ++ [] = 59 :: s' := by
    rw [List.append_nil]
    rcases hst3 with ⟨h, -⟩ | h
    · exact .inl h
    · rw [h, WL20]
      simp only [List.append_assoc, List.cons_append]
      exact .inr ⟨_, rfl⟩
  have el3 : EL (t3 ++ []) := hst3'
  have hd2 : ∀ x t, StT ML nn nb x t → t = [] ∨ ∃ s', t = 59 :: s' := by
    intro x
    induction x with
    | zero => intro t h; exact .inl h
    | succ x ih =>
      rintro t ⟨u1, u2, u3, m, h1, h2, h3, h4, h5⟩
      rcases ih u1 h1 with c | ⟨s', c⟩
      · rw [h5, c]
        rcases h3.hd with c | ⟨s', c⟩
        · rw [c]
          exact h4.hd
        · rw [c]
          exact .inr ⟨_, rfl⟩
      · rw [h5, c]
        exact .inr ⟨_, rfl⟩
  have hd1 : ∀ i t, BuT ML i t → t = [] ∨ ∃ s', t = 59 :: s' := by
    intro i
    induction i with
    | zero => intro t h; exact .inl h
    | succ i ih =>
      rintro t ⟨u1, v, h1, h2, h3, h4⟩
      rcases ih u1 h1 with c | ⟨s', c⟩
      · rw [h4, c, WL13]
        exact .inr ⟨_, rfl⟩
      · rw [h4, c]
        exact .inr ⟨_, rfl⟩
  have el2 : EL (t2 ++ (t3 ++ [])) := EL.app (hd2 nn t2 hS) el3
  have el1 : EL (t1 ++ (t2 ++ (t3 ++ []))) := EL.app (hd1 nb t1 hB) el2
  have hT' : Tq b n 0 (WL.getD 10 [] ++ dgs nn ++ WL.getD 11 [] ++ dgs h ++ WL.getD 12 [] ++ dgs s ++ (t1 ++ (t2 ++ (t3 ++ [])))) := by
    rw [List.append_nil]
    simp only [← List.append_assoc] at hT ⊢
    exact hT
  obtain ⟨M1, Q1, e1, f1, a1, q1, w1, V1, hQ1⟩ := headA hZ el1 ⟨hn1, by omega⟩ ⟨hh1, by omega⟩ hs ⟨0, o0, hT'⟩ qz wz (fun _ _ => rfl)
  have g1 : ∀ i, i ≠ 0 → i ≠ 3 → i ≠ 4 → Q1 i = nI 0 := fun i c1 c2 c3 => by rw [hQ1, upd_ne c3, upd_ne c2, upd_ne c1]
  have g10 : Q1 0 = nI nn := by rw [hQ1, upd_ne (by decide), upd_ne (by decide), upd_eq]
  have g13 : Q1 3 = nI h := by rw [hQ1, upd_ne (by decide), upd_eq]
  have g14 : Q1 4 = nI s := by rw [hQ1, upd_eq]
  have B1 : cB Q1 = 0 := pn_n (g1 1 (by decide) (by decide) (by decide)) (by decide)
  obtain ⟨M2, Q2, e2, f2, p2, V2, B2, l2, o2⟩ := bud_fwd hZ V1 hnb B1 nb (Nat.le_refl _) t1 _ hB el2 ⟨a1, q1, w1, V1.1⟩
  have N2 : cN Q2 = nn := pn_n ((o2 0 (by decide) (by omega)).trans g10) (by omega)
  have Z2 : ZM Q2 := fun y hy => ⟨by
    unfold cM
    rw [if_pos hy]
    exact pn_n ((o2 (8 + y) (by omega) (by omega)).trans (g1 _ (by omega) (by omega) (by omega))) (by decide), (o2 (320 + y) (by omega) (by omega)).trans (g1 _ (by omega) (by omega) (by omega))⟩
  obtain ⟨M3, Q3, J, hJ, e3, f3, p3, V3, s3, -, o3⟩ := sts_fwd hZ V2 N2 B2 Z2 nn (Nat.le_refl _) t2 _ hS el3 p2
  have N3 : cN Q3 = nn := (pn_c (o3 0 (by decide))).trans N2
  obtain ⟨M4, Q4, j, hj, e4, f4, p4, V4, hQ4⟩ := start_fwd hZ V3 ((o3 2 (by decide)).trans ((o2 2 (by decide) (by omega)).trans (g1 2 (by decide) (by decide) (by decide)))) (by omega) hst3 p3
  have u4 : ∀ i, i ≠ 2 → Q4 i = Q3 i := fun i hi => by rw [hQ4, upd_ne hi]
  have N4 : cN Q4 = nn := (pn_c (u4 0 (by decide))).trans N3
  have St4 : ∀ y, y < nn → StQ ML Q4 y := fun y hy => (s3 y hy).of (by omega) (fun i hi => u4 i (by unfold inX at hi; omega)) V3.1.T ((V3.1.M y (by omega)).2)
  have hz4 : ∀ x, x < cN Q4 → cM Q4 x ≠ 0 := fun x hx z => by
    have := (St4 x (by omega)).2.1
    omega
  obtain ⟨kk, ke, kv, k0⟩ := kindE p4.1 (.inl rfl)
  have ke0 : gI M4 1 3 = 0 := by rw [ke, k0 rfl]; rfl
  obtain ⟨e9, o9, -⟩ := p4.1
  have hck : f_X4_checkStates Z M4 = some (1, M4) := by
    rcases checkC hZ o9 p4.2.1 V4.1 with ⟨-, h⟩ | ⟨⟨x, hx, hx0⟩, -⟩
    · exact h
    · exact absurd hx0 (hz4 x hx)
  refine ⟨M4, Q4, ?_, (((F0.trans f1).trans f2).trans f3).trans f4, p4.2.1, p4.2.2.1, V4, hz4, N4, ?_, ⟨by rw [hQ4, upd_eq], ?_, ?_⟩, fun j hj => ?_, St4⟩
  · obtain ⟨fu, hfu⟩ : ∃ fu, Z = (((fu + 1) + j) + J) + nb := ⟨Z - 1 - j - J - nb, by omega⟩
    have hL : ∀ k, f_X4_parse_L48 Z k Z (nI 0) M1 = f_X4_parse_L48 Z k (fu + 1) (nI (0 + nb + J + j)) M4 := fun k => by
      have h2 := e2 k (((fu + 1) + j) + J) 0 (by omega)
      rw [← hfu] at h2
      rw [h2, e3 k _ _ (by omega), e4 k _ _ (by omega)]
    rw [eC, e1, cl_some, if_neg (by decide), show (0 : Int32) = nI 0 from rfl, hL, f_X4_parse_L48, if_neg (by rw [show (1200 : Int32) = nI 1200 from rfl, nI_ile (by decide) (by omega)]; omega), bd_eq, ke0, if_neg (by decide)]
    unfold kC
    rw [bd_eq, ke0, if_pos rfl, hck, cl_some, if_pos (by decide)]
  · rw [show cB Q4 = cB Q3 from pn_c (u4 1 (by decide)), show cB Q3 = cB Q2 from pn_c (o3 1 (by decide))]
    exact B2
  · rw [u4 3 (by decide), o3 3 (by decide), o2 3 (by decide) (by omega)]
    exact g13
  · rw [u4 4 (by decide), o3 4 (by decide), o2 4 (by decide) (by omega)]
    exact g14
  · rw [u4 _ (by omega), o3 _ (by omega)]
    exact l2 j hj
