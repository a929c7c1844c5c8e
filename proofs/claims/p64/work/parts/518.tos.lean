/-! the class's parser over where an act leads to -/
theorem sm_mono9 {f : Nat → Nat} : ∀ m k, k ≤ m → sm k f ≤ sm m f
  | 0, k, h => by rw [show k = 0 by omega]; exact Nat.le_refl _
  | m + 1, k, h => by
    by_cases c : k = m + 1
    · rw [c]; exact Nat.le_refl _
    · have := sm_mono9 (f := f) m k (by omega)
      rw [sm]
      omega
theorem ap0 {Q : Nat → Int32} {r : Nat} (h : cT Q r = 0 ∧ ∀ y, cP Q r y = 0) : AP Q r 0 := by
  have e : cP Q r = fun _ => 0 := funext h.2
  unfold AP
  rw [h.1, e, sm_zero]
  exact ⟨rfl, cz_zero 6 (fun _ _ => rfl), fun k hk => absurd hk (by omega), rfl⟩
theorem tos_fwd {Z : Nat} {b : Nat → Nat} {n r m : Nat} {Q : Nat → Int32} {M : Mem} {o p : Nat → Nat} (hZ : 4000 < Z) (hr : r < 18) (hm : m ≤ 6) (ho : ∀ j, j < m → o j < cN Q) (hi : ∀ i j, i < m → j < m → o i = o j → i = j) (hp : ∀ j, j < m → 1 ≤ p (o j)) (hs : sm m (fun j => p (o j)) ≤ 100) (hz : cT Q r = 0 ∧ ∀ y, cP Q r y = 0) : ∀ k, k ≤ m → ∀ t, isD (t.headD 0) = false → PA b n (toT o p k ++ t) Q M → ∃ M' Q', (∀ k0 k1 fu, f_X4_parsePercents_L5 Z (nI r) k0 k1 (fu + k) (nI 100) (nI 0) M = f_X4_parsePercents_L5 Z (nI r) k0 k1 fu (nI (100 - sm k (fun j => p (o j)))) (nI k) M') ∧ fr lP M M' ∧ PA b n t Q' M' ∧ AP Q' r (sm k (fun j => p (o j))) ∧ cT Q' r = k ∧ (∀ i, ¬ (86 + r * 6 ≤ i ∧ i < 92 + r * 6) → ¬ (212 + r * 6 ≤ i ∧ i < 218 + r * 6) → i ≠ 194 + r → Q' i = Q i) ∧ (∀ j, j < k → Q' (212 + (r * 6 + j)) = nI (o j)) ∧ (∀ j, j < k → Q' (86 + (r * 6 + o j)) = nI (p (o j))) ∧ ∀ y, y < 6 → (∀ j, j < k → o j ≠ y) → Q' (86 + (r * 6 + y)) = nI 0 := by
  intro k
  induction k with
  | zero =>
    intro _ t _ h
    refine ⟨M, Q, fun _ _ _ => rfl, fr.rfl, h, ap0 hz, hz.1, fun _ _ _ _ => rfl, fun j hj => absurd hj (by omega), fun j hj => absurd hj (by omega), fun y hy _ => ?_⟩
    have := h.2.2.2.P (r * 6 + y) (by omega)
    rw [this.1, ← cP_eq hr hy, hz.2 y]
  | succ k ih =>
    intro hk t ht h
    rw [toT, WL18] at h
    simp only [List.append_assoc] at h
    obtain ⟨M0, Q0, h2, h3, ⟨hA, hq, hw, hW⟩, hap, hct, h5, h6, h7, h8⟩ := ih (by omega) _ (hd_sp1 (t := wL 7 ++ _)).2 h
    have hN := hW.N
    have e0 : cN Q0 = cN Q := pn_c (h5 0 (by omega) (by omega) (by omega))
    have hy : o k < cN Q0 := by rw [e0]; exact ho k (by omega)
    have hy6 : o k < 6 := by omega
    have hzy : cP Q0 r (o k) = 0 := by
      rw [cP_eq hr hy6]
      exact pn_n (h8 (o k) hy6 (fun j hj z => absurd (hi j k (by omega) (by omega) z) (by omega))) (by decide)
    have hv1 := hp k (by omega)
    have hsk : sm (k + 1) (fun j => p (o j)) ≤ 100 := Nat.le_trans (sm_mono9 m (k + 1) hk) hs
    rw [sm] at hsk
    have ew := isA hZ hA (by decide) (l := 7) (by decide) (by rfl)
    obtain ⟨M1, k1, f1, -, a1⟩ := advW hZ hA (by decide) (by rfl)
    have c0 : gI M1 22 0 = nI (cN Q0) := by rw [f1.1.I (by decide)]; exact hq.1.1.trans hN.1
    obtain ⟨M2, k2, f2, g2, a2⟩ := stAt (Z := Z) (i := 1) a1 c0 hN.2 hy hd_sp1.2
    obtain ⟨M3, k3, f3, -, a3⟩ := advN hZ a2 (by omega) hd_sp1.2
    obtain ⟨M4, k4, f4, g4, a4⟩ := numA (i := 1) (lo := 1) (hi := nI (100 - sm k (fun j => p (o j)))) hZ a3 (by omega) ht (by decide) ⟨hv1, by rw [nI_toInt (by omega)]; omega⟩
    have am : f_X0_percentTo Z M2 22 (nI r) (nI (o k)) = some (nI 0, M2) := by
      unfold f_X0_percentTo
      rw [i6, nI_mul, nI_add, rdI_n (by omega) (by decide), ((hq.fP f1).fP f2).1.2.2.2.2.2.1 _ (by omega), (hW.P _ (by omega)).1, ← cP_eq hr hy6, hzy]
    have A0 := (((hq.fP f1).fP f2).fP f3).fP f4
    have A := A0.tell (r := r) (y := o k) (t := k) (v := p (o k)) hW.T hr hy6 (by omega) hct
    have c28 : gI M4 28 r = nI k := by
      rw [show (28 : Nat) = 22 + 6 from rfl, A0.1.2.2.2.2.2.2.1 r hr, hW.QT r hr, hct]
    have tl : f_X0_tell Z M4 22 (nI r) (nI (o k)) (nI (p (o k))) = some ((), sI (sI (sI M4 27 (r * 6 + k) (nI (o k))) 28 r (nI (k + 1))) 26 (r * 6 + o k) (nI (p (o k)))) := by
      unfold f_X0_tell
      rw [rdI_n hr (by decide), c28, if_neg (by rw [show (6 : Int32) = nI 6 from rfl, nI_ile (by decide) (by omega)]; omega), rdI_n hr (by decide), c28, i6, nI_mul, nI_add, wrI_n (by omega) (by decide), rdI_n hr (by decide), gI_sI, if_neg (fun z => absurd z.1 (by decide)), c28, i1, nI_add, wrI_n hr (by decide), nI_add, wrI_n (by omega) (by decide)]
    have W : CQW (rowT Q0 r (o k) k (p (o k))) (sI (sI (sI M4 27 (r * 6 + k) (nI (o k))) 28 r (nI (k + 1))) 26 (r * 6 + o k) (nI (p (o k)))) := fun x hx a ha => by
      rw [gI_sI', if_neg (by decide), gI_sI', if_neg (by decide), gI_sI', if_neg (by decide), rowT_ne (by omega) (by omega) (by omega), rowT_ne (by omega) (by omega) (by omega)]
      exact ((((hw.fP f1).fP f2).fP f3).fP f4) x hx a ha
    have hap2 := hap.tell hW hr hy hzy hv1 (by omega)
    rw [hct] at hap2
    refine ⟨_, rowT Q0 r (o k) k (p (o k)), fun k0 k1' fu => ?_, fr_sI (fr_sI (fr_sI ((((h3.trans f1.p).trans f2.p).trans f3.p).trans f4.p) (by decide)) (by decide)) (by decide), ⟨((a4.s (by decide) (by decide)).s (by decide) (by decide)).s (by decide) (by decide), A, W, hW.tell hr hy6 (by omega) (by omega)⟩, hap2, by rw [rowT_cT hr hy6 (by omega), if_pos rfl], fun i i1 i2 i3 => ?_, fun j hj => ?_, fun j hj => ?_, fun y hy9 hj => ?_⟩
    · rw [show fu + (k + 1) = (fu + 1) + k by omega, h2, f_X4_parsePercents_L5, if_neg (by rw [show (6 : Int32) = nI 6 from rfl, nI_ilt (by decide) (by omega)]; omega), ew, cl_some, if_neg (by decide), k1, cl_some, k2, cl_some, if_neg (by decide), bd_eq, g2, am, cl_some, if_pos (by decide), k3, cl_some, show f_X4_takeNumber Z M3 1 (nI (100 - sm k (fun j => p (o j)))) = some (1, M4) from k4, cl_some, if_neg (by decide), bd_eq, g4, tl, cl_some, bd_eq, gI_sI, if_neg (fun z => absurd z.1 (by decide)), gI_sI, if_neg (fun z => absurd z.1 (by decide)), gI_sI, if_neg (fun z => absurd z.1 (by decide)), g4, nI_sub (by omega), show nI k + (1 : Int32) = nI (k + 1) from nI_add k 1, show 100 - sm (k + 1) (fun j => p (o j)) = 100 - sm k (fun j => p (o j)) - p (o k) by rw [sm]; omega]
    · rw [rowT_ne (by omega) (by omega) (by omega)]
      exact h5 i i1 i2 i3
    · by_cases c : j = k
      · subst c
        unfold rowT
        rw [upd_ne (by omega), upd_eq]
      · rw [rowT_ne (by omega) (by omega) (by omega)]
        exact h6 j (by omega)
    · by_cases c : j = k
      · subst c
        unfold rowT
        rw [upd_ne (by omega), upd_ne (by omega), upd_eq]
      · have oj : o j < 6 := by have := ho j (by omega); omega
        rw [rowT_ne (fun z => c (hi j k (by omega) (by omega) (by omega))) (by omega) (by omega)]
        exact h7 j (by omega)
    · have := hj k (by omega)
      rw [rowT_ne (by omega) (by omega) (by omega)]
      exact h8 y hy9 (fun j h => hj j (by omega))
theorem parsePercents_ok {Z : Nat} {b : Nat → Nat} {n r m : Nat} {Q : Nat → Int32} {M : Mem} {o p : Nat → Nat} {t : List Nat} (hZ : 4000 < Z) (hr : r < 18) (hm : m ≤ 6) (ho : ∀ j, j < m → o j < cN Q) (hi : ∀ i j, i < m → j < m → o i = o j → i = j) (hp : ∀ j, j < m → 1 ≤ p (o j)) (hs : sm m (fun j => p (o j)) = 100) (hz : cT Q r = 0 ∧ ∀ y, cP Q r y = 0) (ht : EL t) (h : PA b n (toT o p m ++ t) Q M) : ∃ M' Q', f_X4_parsePercents Z M (nI r) = some (1, M') ∧ fr lP M M' ∧ PA b n t Q' M' ∧ AP Q' r 100 ∧ cT Q' r = m ∧ (∀ i, ¬ (86 + r * 6 ≤ i ∧ i < 92 + r * 6) → ¬ (212 + r * 6 ≤ i ∧ i < 218 + r * 6) → i ≠ 194 + r → Q' i = Q i) ∧ (∀ j, j < m → Q' (212 + (r * 6 + j)) = nI (o j)) ∧ (∀ j, j < m → Q' (86 + (r * 6 + o j)) = nI (p (o j))) ∧ ∀ y, y < 6 → (∀ j, j < m → o j ≠ y) → Q' (86 + (r * 6 + y)) = nI 0 := by
  obtain ⟨M', Q', h1, h3, h4, h5, h6⟩ := tos_fwd hZ hr hm ho hi hp (by omega) hz m (Nat.le_refl _) t ht.hd.2 h
  rw [hs] at h5 h1
  refine ⟨M', Q', ?_, h3, h4, h5, h6⟩
  unfold f_X4_parsePercents
  have ew := isE (l := 7) hZ h4.1 (by decide) ht
  have ee := endA (Z := Z) h4.1 ht
  obtain ⟨fu, hfu⟩ : ∃ fu, Z = (fu + 1) + m := ⟨Z - 1 - m, by omega⟩
  generalize hk1 : (fun (M33 : Mem) => cl (f_X4_fail Z M33 (3 : Int32)) (fun v34 M35 => (if v34 &&& 1 = v34 then some (v34, M35) else none))) = kk
  have h1' := h1 (fun (y28 : Int32) (M29 : Mem) => cl (f_X4_endLine Z M29 y28) (fun v30 M31 => (if v30 &&& 1 = v30 then some (v30, M31) else none))) kk (fu + 1)
  rw [← hfu] at h1'
  rw [show (100 : Int32) = nI 100 from rfl, show (0 : Int32) = nI 0 from rfl, h1', f_X4_parsePercents_L5, if_neg (by rw [show (6 : Int32) = nI 6 from rfl, nI_ilt (by decide) (by omega)]; omega), ew, cl_some, if_pos (by decide), Nat.sub_self, ee, cl_some, if_pos (by decide)]
