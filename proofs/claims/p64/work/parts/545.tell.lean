/-! the text is told to the class -/
theorem rgM_l0 {M : Mem} {n : Nat} : gL (rgM M n) 213 0 = lN n := by
  unfold rgM
  by_cases c : n = vlen M 211
  · rw [if_pos c]
    show gL (sL M 213 0 (lN (vlen M 211))) 213 0 = _
    rw [gL_sL, if_pos ⟨rfl, rfl⟩, c]
  · rw [if_neg c]
    show gL (sL M 213 0 (lN n)) 213 0 = _
    rw [gL_sL, if_pos ⟨rfl, rfl⟩]
theorem ts_ok {M : Mem} {T : List Nat} (h : TB M T) (hn : T.length ≤ 1100) : TS (tsM M T.length) T ∧ ∀ o, o ≠ 212 → o ≠ 213 → gI (tsM M T.length) o = gI M o ∧ gL (tsM M T.length) o = gL M o ∧ gR (tsM M T.length) o = gR M o := by
  obtain ⟨-, h2, h3⟩ := h
  have at9 : ∀ j, j < T.length → gI (tsM M T.length) 213 j = nI (T.getD j 0) := fun j hj => by
    show gI (rgM (sI M 212 1 0) T.length) 213 j = _
    rw [rgM_at hj, gI_sI, if_neg (by omega)]
    exact h2 j hj
  refine ⟨⟨⟨?_, ?_, by omega, fun j hj => ⟨T.getD j 0, h3 _ (getD_mem hj), at9 j hj⟩⟩, at9, h3, hn⟩, fun o h1 h2 => ⟨funext fun k => ?_, funext fun k => ?_, ?_⟩⟩
  · show gI (rgM (sI M 212 1 0) T.length) 212 1 = 0
    rw [rgM_ne (by decide), gI_sI, if_pos ⟨rfl, rfl⟩]
  · unfold vlen
    show ((gL (rgM (sI M 212 1 0) T.length) 213 0).toInt).toNat = _
    rw [rgM_l0, lN_toI (by omega)]
    rfl
  · show gI (rgM (sI M 212 1 0) T.length) o k = _
    rw [rgM_ne h2, gI_sI, if_neg (fun z => h1 z.1)]
  · show gL (rgM (sI M 212 1 0) T.length) o k = _
    rw [rgM_L h2]
    rfl
  · show gR (sR (rgM (sI M 212 1 0) T.length) 212 0 (some 213)) o = _
    rw [gR_sR', if_neg h1]
    show gR (rgM (sI M 212 1 0) T.length) o = _
    unfold rgM
    split <;> rfl
theorem lLd_in {o : Nat} (h : o ∈ lLd) : o < 108 ∧ o ≠ 36 := by
  revert o
  decide
theorem tell_ok {Z : Nat} {sh : Nat → Option SE} {M2 : Mem} {n nb h s st : Nat} {t1 t2 t3 : List Nat} (hZ : 4000 < Z) (hB : Bg M2) (hI : Ini M2 n nb h s st t1 t2 t3) : ∃ T, TB (mmC M2) T ∧ T.length ≤ 1100 ∧ ∃ M' P, f_L_tell sh Z (tsM (mmC M2) T.length) = some (nI (sm (cN P) (cM P)), M') ∧ gI M' 21 2 = 0 ∧ gI M' 21 3 = -1 ∧ HasC P (S0 P) M' ∧ RLw M2 P n nb h s st ∧ ZT M' ∧ ∀ o, 108 ≤ o → o < 320 → o ≠ 212 → o ≠ 213 → gI M' o = gI M2 o ∧ gL M' o = gL M2 o ∧ gR M' o = gR M2 o := by
  obtain ⟨c1, c2, c3⟩ := ceC hB.zc
  obtain ⟨T, hT⟩ : ∃ T, T = WL.getD 10 [] ++ dgs n ++ WL.getD 11 [] ++ dgs h ++ WL.getD 12 [] ++ dgs s ++ t1 ++ t2 ++ t3 := ⟨_, rfl⟩
  have hI' := hI
  obtain ⟨⟨⟨hn1, hn4⟩, hnb, ⟨hh1, hh⟩, hs⟩, -, ⟨l1, l2, l3⟩, -, -, -, hTB⟩ := hI
  rw [← hT] at hTB
  have hlen : T.length ≤ 1100 := by
    have w10 : (WL.getD 10 []).length = 13 := rfl
    have w11 : (WL.getD 11 []).length = 9 := rfl
    have w12 : (WL.getD 12 []).length = 6 := rfl
    have ln := dgs_l1 (v := n) (by omega)
    have lh := dgs_l1 (v := h) (by omega)
    have ls := (dgs_len (v := s)).1
    rw [hT]
    simp only [List.length_append]
    omega
  have hTC : TB (mmC M2) T := hTB.of (c1 210 (by decide)).1 (c1 211 (by decide)).1 (c1 300 (by decide)).1 (c1 211 (by decide)).2.1 (c1 300 (by decide)).2.1 (c1 300 (by decide)).2.2
  refine ⟨T, hTC, hlen, ?_⟩
  obtain ⟨hTS, e4⟩ := ts_ok hTC hlen
  generalize tsM (mmC M2) T.length = M4 at hTS e4 ⊢
  have g4 : ∀ o, 108 ≤ o → o ≠ 212 → o ≠ 213 → gI M4 o = gI M2 o ∧ gL M4 o = gL M2 o ∧ gR M4 o = gR M2 o := fun o h1 h2 h3 => by
    obtain ⟨a1, a2, a3⟩ := e4 o h2 h3
    obtain ⟨b1, b2, b3⟩ := c1 o h1
    exact ⟨a1.trans b1, a2.trans b2, a3.trans b3⟩
  have k4 : ∀ o, o < 108 → gI M4 o = gI (mmC mem0) o ∧ gR M4 o = gR (mmC mem0) o := fun o ho => by
    obtain ⟨a1, a2, a3⟩ := e4 o (by omega) (by omega)
    obtain ⟨b1, b2, b3⟩ := c2 o ho
    exact ⟨a1.trans b1, a3.trans b3⟩
  have z4 : ZT M4 := fun o a b => by
    have := hB.z o (by omega) (by omega)
    unfold zeroM
    rw [(g4 o (by omega) (by omega) (by omega)).1, (g4 o (by omega) (by omega) (by omega)).2.1, (g4 o (by omega) (by omega) (by omega)).2.2]
    exact this
  obtain ⟨M5, q, e5, f5, z5, q5, q6, q7, b5⟩ := feeds_ok (sh := sh) hZ hTS z4 (by rw [(k4 1 (by decide)).1]; exact mmC_I.2.2.2.2)
  have hTS5 := hTS.fu9 f5 (by decide) (by decide)
  obtain ⟨M6, P, e6, f6, p1, p2, hC, hL⟩ := load_ok (M := M5) (rot := 0) hZ hI' hT hTS.2.2.1 q5 q7 q6 b5 (fun t => by
    rw [f5.I (show 33 < 320 by decide) (by decide), f5.I (show 34 < 320 by decide) (by decide), (k4 33 (by decide)).1, (k4 34 (by decide)).1]
    exact mmC_rows t) (fun k hk => by
    rw [(f5 36 (by decide) (by decide)).2.2, (k4 36 (by decide)).2]
    exact mmC_rot k hk)
  refine ⟨M6, P, ?_, p1, p2, hC, hL, fun o a b => ?_, fun o a b c d => ?_⟩
  · obtain ⟨R, hR⟩ : ∃ R : Option (Int32 × Mem) → Prop, R = fun x => x = some (nI (sm (cN P) (cM P)), M6) := ⟨_, rfl⟩
    suffices H : R (f_L_tell sh Z M4) by rw [hR] at H; exact H
    have hfin : R (some (nI (sm (cN P) (cM P)), M6)) := by rw [hR]
    clear hR
    unfold f_L_tell
    exact ifp_R (by decide) (cl_R1 e5 (ifn_R (by decide) (ifp_R (by decide) (tLen_R hTS5 (ifp_R (by decide) (clT_R e6 (ifp_R (by decide) hfin)))))))
  · have h1 := z5 o a b
    have h2 := f6 o (fun z => by have := lLd_in z; omega)
    unfold zeroM
    rw [h2.1, h2.2.1, h2.2.2]
    exact h1
  · have h1 := f5 o b (by simp; omega)
    have h2 := f6 o (fun z => by have := lLd_in z; omega)
    obtain ⟨a1, a2, a3⟩ := g4 o a c d
    exact ⟨(h2.1.trans h1.1).trans a1, (h2.2.1.trans h1.2.1).trans a2, (h2.2.2.trans h1.2.2).trans a3⟩
/-- law and class after the text -/
theorem LI.start {M2 M' : Mem} {P : Nat → Int32} {n nb h s st : Nat} {t1 t2 t3 : List Nat} (hB : Bg M2) (hI : Ini M2 n nb h s st t1 t2 t3) (hC : HasC P (S0 P) M') (hL : RLw M2 P n nb h s st) (hz : ZT M') (e : ∀ o, 108 ≤ o → o < 320 → o ≠ 212 → o ≠ 213 → gI M' o = gI M2 o ∧ gL M' o = gL M2 o ∧ gR M' o = gR M2 o) : LI 214 300 P (S0 P) (fun x => 120 + x) M' := by
  obtain ⟨⟨⟨hn1, hn4⟩, hnb, ⟨hh1, hh⟩, hs⟩, ⟨i1, i2, i3, i4⟩, -, -, -, ⟨hst, i5, -⟩, -⟩ := hI
  obtain ⟨r1, r2, ⟨r3, r4, r5⟩, r6, r7⟩ := hL
  have hV := hC.1
  have hN := hC.N.2
  have hm := hC.z.2.1
  have hVS := hC.s
  have g : ∀ o, 108 ≤ o → o < 212 → gI M' o = gI M2 o := fun o a b => (e o a (by omega) (by omega) (by omega)).1
  have gr : ∀ o, 108 ≤ o → o < 212 → gR M' o = gR (mH mem1) o := fun o a b => by rw [(e o a (by omega) (by omega) (by omega)).2.2, hB.R]
  have hR0 : LwR (fun x => 120 + x) 214 (mH mem1) := ⟨(mH_RW mem1).1, (mH_RW mem1).2, fun x _ => .inl rfl⟩
  have hs1 : S0 P 1 = P 3 := rfl
  refine ⟨⟨hC, ⟨?_, ?_, fun x hx => ?_, fun x hx a ha => ?_⟩, ⟨⟨?_, ?_, ?_, ?_⟩, fun x hx a ha => ?_, fun x hx a ha => ?_, fun b hb => ?_, fun n9 hn9 e9 => ?_⟩, hR0.fr (fun o a b => gr o (by omega) (by omega))⟩, ⟨by omega, ?_, by decide, by decide⟩, hz, fun o a b => ?_, ?_⟩
  · rw [g 109 (by decide) (by decide), i1, r1]
  · rw [g 109 (by decide) (by decide), i2, r2]
  · rw [g 111 (by decide) (by decide)]
    exact (r7 x (by omega)).1
  · have hma := hm x
    obtain ⟨q1, q2, q3, q4, q5⟩ := (r7 x (by omega)).2.2.1 a ha
    have hr : x * 3 + a < 18 := by omega
    have ht6 : ∀ k, k < cT P (x * 3 + a) → k < 6 := fun k hk => by
      have := (hV.2.2.2.2.2.2.2 x hx a ha).2.1
      omega
    refine ⟨by rw [g (113 + x) (by omega) (by omega)]; exact q1.symm, fun b hb => ?_, fun y hy => ?_, fun k hk => ?_⟩
    · rw [g (128 + 4 * x + a) (by omega) (by omega), ← q3 b hb, ← Nat.add_assoc]
      exact hV.a hr hb
    · rw [g (153 + 4 * x + a) (by omega) (by omega), ← q4 y hy, ← Nat.add_assoc]
      exact hV.p hr hy
    · rw [g (178 + 4 * x + a) (by omega) (by omega), ← q5 k hk, ← Nat.add_assoc]
      exact hV.o hr (ht6 k hk)
  · rw [g 109 (by decide) (by decide), i5]
    exact r3.symm
  · rw [g 109 (by decide) (by decide), i3]
    exact r4.symm
  · rw [g 109 (by decide) (by decide), i4]
    exact r5.symm
  · rw [g 109 (by decide) (by decide)]
    exact hB.2.2.1
  · show gI M' (120 + x) a = _
    rw [g (120 + x) (by omega) (by omega), ← hVS.v3.1 (x * 3 + a) (by omega), (S0_r (by omega) ha).1]
    by_cases c : a < cM P x
    · rw [if_pos ⟨hx, c⟩]
      exact (r7 x (by omega)).2.2.2.1 a c
    · rw [if_neg (fun z => c z.2)]
      exact (r7 x (by omega)).2.2.2.2 a (by omega) ha
  · have := hm x
    rw [g (202 + x) (by omega) (by omega), (S0_r (by omega) (by omega)).2, if_pos ⟨hx, ha⟩]
    exact ((r7 x (by omega)).2.2.1 a ha).2.1
  · have := hC.b.2
    rw [g 110 (by decide) (by decide), S0_l (by omega)]
    exact (r6 b (by omega)).symm
  · exact absurd (show (-1 : Int32) = nI n9 from e9) (nI_ne_neg (by omega)).symm
  · rw [pn_c (S' := S0 P) (S := fun _ => P 3) (i := 1) hs1]
    rw [pn_n (S := fun _ => P 3) (i := 1) r4 (by omega)]
    exact hh
  · have := hB.z o (by omega) (by omega)
    unfold zeroM
    rw [(e o (by omega) (by omega) (by omega) (by omega)).1, (e o (by omega) (by omega) (by omega) (by omega)).2.1, (e o (by omega) (by omega) (by omega) (by omega)).2.2]
    exact this
  · obtain ⟨k, hk, hk2⟩ := hB.1
    exact ⟨k, by rw [g 108 (by decide) (by decide)]; exact hk, hk2⟩
