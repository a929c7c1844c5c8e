/-! walk -/
def wkS (s : Nat) : Nat → Nat
  | 0 => s
  | n + 1 => sd (sd (wkS s n))
def wkX (P : Nat → Int32) (W : Nat → Nat) (s x : Nat) : Nat → Nat
  | 0 => x
  | n + 1 => stX P W (wkS s n) (wkX P W s x n)
def wkA (P : Nat → Int32) (W : Nat → Nat) (s x n : Nat) : Nat := stA P W (wkS s n) (wkX P W s x n)
theorem wkS_lt {s : Nat} (h : s < 30011) : ∀ n, wkS s n < 30011
  | 0 => h
  | _ + 1 => sd_lt
theorem wkX_lt {P : Nat → Int32} (hV : VP P) {W : Nat → Nat} (hK : WOK P W) {s x : Nat} (hx : x < cN P) : ∀ n, wkX P W s x n < cN P
  | 0 => hx
  | n + 1 => stX_lt hV hK (wkX_lt hV hK hx n)
theorem wkA_lt {P : Nat → Int32} (hV : VP P) {W : Nat → Nat} (hK : WOK P W) {s x : Nat} (hx : x < cN P) (n : Nat) : wkA P W s x n < cM P (wkX P W s x n) := stA_lt hK (wkX_lt hV hK hx n)
/-- the class's walk at t -/
def WKC (P : Nat → Int32) (W : Nat → Nat) (s x t : Nat) (M M' : Mem) : Prop := fr [14, 15, 104] M M' ∧ gI M' 104 1 = nI (wkS s t) ∧ gI M' 104 2 = nI (wkX P W s x t) ∧ (∀ i, gI M' 14 i = if i ≤ t then nI (wkX P W s x i) else gI M 14 i) ∧ ∀ i, gI M' 15 i = if i < t then nI (wkA P W s x i) else gI M 15 i
theorem walkC_ok {Z : Nat} {M M0 : Mem} {P : Nat → Int32} (hV : VP P) (hc : DC P M) (hZ : 10 < Z) {W : Nat → Nat} (hK : WOK P W) (hW : ∀ r, r < 3 * cN P → gI M 11 r = nI (W r)) {s x H : Nat} (hs : s < 30011) (hx : x < cN P) (hH : H ≤ 5) (h4 : gI M 10 4 = nI H) (h0 : WKC P W s x 0 M M0) (k : Mem → Option (Except Nat Int32 × Mem)) : ∃ Mf, f_X11_walk_L61 Z k Z (nI 0) M0 = k Mf ∧ WKC P W s x H M Mf := by
  have hN := hV.2.1
  have no3 : ∀ o, 3 ≤ o → o ≤ 9 → o ∉ [14, 15, 104] := fun o a b z => by
    simp only [List.mem_cons, List.not_mem_nil, or_false] at z
    omega
  refine lpS (σ := Mem) (fun n t M' => f_X11_walk_L61 Z k n (nI t) M') (fun q => ∃ Mf, q = k Mf ∧ WKC P W s x H M Mf) (fun t M' => WKC P W s x t M M') 0 H (s := M0) (by omega) (by omega) h0 ?_ ?_
  · intro n t M' _ ht hI K
    obtain ⟨g1, g2, g3, g4, g5⟩ := hI
    have hx' := wkX_lt hV hK hx (s := s) t
    rw [f_X11_walk_L61, bd_eq, g1.I (by decide), h4, if_neg (by rw [nI_ile (by omega) (by omega)]; omega)]
    obtain ⟨_, M2, e1, q1, q2, q3, q4⟩ := step_ok (Z := Z) hV (hc.fr g1 no3) hZ hK (fun r hr => by rw [g1.I (by decide)]; exact hW r hr) (wkS_lt hs t) hx' g2 g3
    have no : ∀ {a b : Nat} {p : Prop}, a ≠ b → ¬ (a = b ∧ p) := fun h z => h z.1
    rw [e1, cl_some, bd_eq, q4, wrI_n (by omega) (by decide), bd_eq, gI_sI, if_neg (no (by decide)), q3, i1, nI_add, wrI_n (by omega) (by decide)]
    refine K _ ⟨fr_sI (fr_sI (g1.trans (q1.mono (by decide))) (by decide)) (by decide), ?_, ?_, fun i => ?_, fun i => ?_⟩
    · rw [gI_sI, if_neg (no (by decide)), gI_sI, if_neg (no (by decide))]
      exact q2
    · rw [gI_sI, if_neg (no (by decide)), gI_sI, if_neg (no (by decide))]
      exact q3
    · rw [gI_sI]
      by_cases c : i = t + 1
      · rw [if_pos ⟨rfl, c⟩, if_pos (by omega), c]
        rfl
      · rw [if_neg (fun z => c z.2), gI_sI, if_neg (no (by decide)), q1.I (by decide), g4]
        by_cases d : i ≤ t
        · rw [if_pos d, if_pos (by omega)]
        · rw [if_neg d, if_neg (by omega)]
    · rw [gI_sI, if_neg (no (by decide)), gI_sI]
      by_cases c : i = t
      · rw [if_pos ⟨rfl, c⟩, if_pos (by omega), c]
        rfl
      · rw [if_neg (fun z => c z.2), q1.I (by decide), g5]
        by_cases d : i < t
        · rw [if_pos d, if_pos (by omega)]
        · rw [if_neg d, if_neg (by omega)]
  · intro n M' hI
    refine ⟨M', ?_, hI⟩
    rw [f_X11_walk_L61, bd_eq, hI.1.I (by decide), h4, if_pos (by rw [nI_ile (by omega) (by omega)]; omega)]
/-- the reference's walk at t -/
def WKR (P : Nat → Int32) (W : Nat → Nat) (s x H t : Nat) (M M' : Mem) : Prop := fr [109] M M' ∧ (∀ i, i ≠ 2 → i ≠ 3 → (i < 43 ∨ 54 ≤ i) → gI M' 109 i = gI M 109 i) ∧ gI M' 109 2 = nI (wkS s t) ∧ gI M' 109 3 = nI H ∧ (∀ i, i < 6 → gI M' 109 (43 + i) = if i ≤ t then nI (wkX P W s x i) else gI M 109 (43 + i)) ∧ ∀ i, i < 5 → gI M' 109 (49 + i) = if i < t then nI (wkA P W s x i) else gI M 109 (49 + i)
theorem walks_ok {Z : Nat} {M : Mem} {P : Nat → Int32} (hV : VP P) (hP : gI M 112 = P) (hZ : 10 < Z) {W : Nat → Nat} (hK : WOK P W) (hW : ∀ r, r < 18 → gI M 109 (4 + r) = nI (W r)) {s x H : Nat} (hs : s < 30011) (hx : x < cN P) (hH : H ≤ 5) (h0 : gI M 109 0 = nI x) (h1 : gI M 109 1 = nI H) (h2 : gI M 109 2 = nI s) : OK (f_X12_walks Z M) (fun _ M' => WKR P W s x H H M M') := by
  have hN := hV.2.1
  unfold f_X12_walks
  rw [i1, rdI_n (by decide) (by decide), show (3 : Int32) = nI 3 from rfl, wrI_n (by decide) (by decide), i0, rdI_n (by decide) (by decide), show (43 : Int32) = nI 43 from rfl, wrI_n (by decide) (by decide), h1, gI_sI, if_neg (by decide), h0]
  generalize hM : sI (sI M 109 3 (nI H)) 109 43 (nI x) = M0
  have e0 : ∀ i, gI M0 109 i = if i = 43 then nI x else if i = 3 then nI H else gI M 109 i := fun i => by
    rw [← hM, gI_sI, gI_sI]
    simp only [true_and]
  have f0 : fr [109] M M0 := by
    rw [← hM]
    exact fr_sI (fr_sI fr.rfl (by decide)) (by decide)
  have w0 : WKR P W s x H 0 M M0 := by
    refine ⟨f0, fun i a b c => by rw [e0, if_neg (by omega), if_neg b], by rw [e0, if_neg (by decide), if_neg (by decide)]; exact h2, by rw [e0, if_neg (by decide), if_pos rfl], fun i hi => ?_, fun i hi => by rw [e0, if_neg (by omega), if_neg (by omega), if_neg (by omega)]⟩
    by_cases c : i = 0
    · rw [e0, if_pos (by omega), if_pos (by omega), c]
      rfl
    · rw [e0, if_neg (by omega), if_neg (by omega), if_neg (by omega)]
  refine lpS (σ := Mem) (fun n t M' => f_X12_walks_L27 Z n (nI t) M') (fun q => OK q (fun _ M' => WKR P W s x H H M M')) (fun t M' => WKR P W s x H t M M') 0 H (s := M0) (by omega) (by omega) w0 ?_ ?_
  · intro n t M' _ ht hI K
    obtain ⟨g1, g2, g3, g4, g5, g6⟩ := hI
    have hx' := wkX_lt hV hK hx (s := s) t
    have ha' := wkA_lt hV hK hx (s := s) t
    have hs1 := wkS_lt hs t
    have eX : gI M' 109 (43 + t) = nI (wkX P W s x t) := by rw [g5 t (by omega), if_pos (Nat.le_refl _)]
    have hZ' : 10 < Z := hZ
    rw [f_X12_walks_L27, i1, rdI_n (by decide) (by decide), g2 1 (by decide) (by decide) (by decide), h1, if_neg (by rw [nI_ile (by omega) (by omega)]; omega), show (43 : Int32) = nI 43 from rfl, nI_add, rdI_n (by omega) (by decide), eX, drawsAction_eq hV hZ hK (fun r hr => by rw [g2 (4 + r) (by omega) (by omega) (by omega)]; exact hW r hr) hx' g3 hs1, cl_some, show (49 : Int32) = nI 49 from rfl, nI_add, wrI_n (by omega) (by decide), rdI_n (by omega) (by decide), rdI_n (by omega) (by decide), nI_add]
    generalize hM1 : sI (sI M' 109 2 (nI (sd (wkS s t)))) 109 (49 + t) (nI (stA P W (wkS s t) (wkX P W s x t))) = M1
    have e1 : ∀ i, gI M1 109 i = if i = 49 + t then nI (wkA P W s x t) else if i = 2 then nI (sd (wkS s t)) else gI M' 109 i := fun i => by
      rw [← hM1, gI_sI, gI_sI]
      simp only [true_and]
      rfl
    have f1 : fr [109] M M1 := by
      rw [← hM1]
      exact fr_sI (fr_sI g1 (by decide)) (by decide)
    rw [e1, e1, if_neg (by omega), if_neg (by omega), if_pos rfl, eX, drawsState_eq hV (by rw [f1.I (by decide)]; exact hP) hZ hx' ha' (by rw [e1, if_neg (by omega), if_pos rfl]) sd_lt, cl_some, wrI_n (by omega) (by decide)]
    generalize hM2 : sI (sI M1 109 2 (nI (sd (sd (wkS s t))))) 109 (43 + t + 1) (nI (ps P (wkX P W s x t * 3 + wkA P W s x t) (sd (sd (wkS s t)) % 100))) = M2
    have e2 : ∀ i, gI M2 109 i = if i = 43 + t + 1 then nI (wkX P W s x (t + 1)) else if i = 2 then nI (wkS s (t + 1)) else gI M1 109 i := fun i => by
      rw [← hM2, gI_sI, gI_sI]
      simp only [true_and]
      rfl
    have f2 : fr [109] M M2 := by
      rw [← hM2]
      exact fr_sI (fr_sI f1 (by decide)) (by decide)
    rw [nI_add]
    refine K _ ⟨f2, fun i a b c => ?_, ?_, ?_, fun i hi => ?_, fun i hi => ?_⟩
    · rw [e2, if_neg (by omega), if_neg a, e1, if_neg (by omega), if_neg a]
      exact g2 i a b c
    · rw [e2, if_neg (by omega), if_pos rfl]
    · rw [e2, if_neg (by omega), if_neg (by decide), e1, if_neg (by omega), if_neg (by decide)]
      exact g4
    · rw [e2]
      by_cases c : i = t + 1
      · rw [if_pos (by omega), if_pos (by omega), c]
      · rw [if_neg (by omega), if_neg (by omega), e1, if_neg (by omega), if_neg (by omega), g5 i hi]
        by_cases d : i ≤ t
        · rw [if_pos d, if_pos (by omega)]
        · rw [if_neg d, if_neg (by omega)]
    · rw [e2, if_neg (by omega), if_neg (by omega), e1]
      by_cases c : i = t
      · rw [if_pos (by omega), if_pos (by omega), c]
      · rw [if_neg (by omega), if_neg (by omega), g6 i hi]
        by_cases d : i < t
        · rw [if_pos d, if_pos (by omega)]
        · rw [if_neg d, if_neg (by omega)]
  · intro n M' hI
    have := hI.2.1 1 (by decide) (by decide) (by decide)
    rw [f_X12_walks_L27, i1, rdI_n (by decide) (by decide), this, h1, if_pos (by rw [nI_ile (by omega) (by omega)]; omega)]
    exact OK.ret hI
theorem WKR.wk {P : Nat → Int32} {W : Nat → Nat} {s x H : Nat} {M M' : Mem} (h : WKR P W s x H H M M') (hV : VP P) (hK : WOK P W) (hx : x < cN P) (h1 : 1 ≤ H) (hH : H ≤ 5) : WK P (gI M' 109) H := by
  have hN := hV.2.1
  have eX : ∀ t, t ≤ H → gI M' 109 (43 + t) = nI (wkX P W s x t) := fun t ht => by rw [h.2.2.2.2.1 t (by omega), if_pos ht]
  have eA : ∀ t, t < H → gI M' 109 (49 + t) = nI (wkA P W s x t) := fun t ht => by rw [h.2.2.2.2.2 t (by omega), if_pos ht]
  refine ⟨h.2.2.2.1, h1, hH, fun t ht => ?_, fun t ht => ?_⟩
  · have hx' := wkX_lt hV hK hx (s := s) t
    rw [pn_n (eX t ht) (by omega)]
    exact ⟨eX t ht, hx'⟩
  · have hx' := wkX_lt hV hK hx (s := s) t
    have ha' := wkA_lt hV hK hx (s := s) t
    have hm := hV.2.2.1 (wkX P W s x t)
    rw [pn_n (eX t (by omega)) (by omega), pn_n (eA t ht) (by omega)]
    exact ⟨eA t ht, ha'⟩
theorem WK.v6 {P S : Nat → Int32} {n : Nat} (h : WK P S n) : V6 P S := by
  obtain ⟨h1, h2, h3, h4, h5⟩ := h
  unfold V6
  rw [pn_n h1 (by omega)]
  exact Or.inr ⟨h1, h2, h3, h4, h5⟩
theorem ok_walk {Z : Nat} (hZ : 4000 < Z) {M : Mem} (hI : Inv M) (h : Has M) : OKc (f_X11_walk Z M) (fun M => f_X12_walk Z M) (·.toInt64) (·.toInt64) := by
  have hN := h.N
  have hV := h.2.1
  have hS := h.VS
  have hR := h.RS
  have hK := hS.W
  obtain ⟨eS0, hx⟩ := hS.v0
  obtain ⟨eS1, hH1, hH⟩ := hS.v1
  obtain ⟨eS2, hs⟩ := hS.v2
  generalize hxx : pn (gI M 109) 0 = x at *
  generalize hHH : pn (gI M 109) 1 = H at *
  generalize hss : pn (gI M 109) 2 = s at *
  obtain ⟨M1, e1, m1, HH⟩ := change hZ hI h
  have m10 : ∀ o, 10 ≤ o → o < 19 → gI M1 o = gI M o := fun o a b => (m1 o (by omega) (by omega) (by omega)).1
  have c3 : gI M1 10 3 = nI x := by rw [m10 10 (by decide) (by decide), hR.1.1]; exact eS0
  have c4 : gI M1 10 4 = nI H := by rw [m10 10 (by decide) (by decide), hR.1.2.1]; exact eS1
  have c5 : gI M1 10 5 = nI s := by rw [m10 10 (by decide) (by decide), hR.1.2.2.1]; exact eS2
  generalize hMb : sI (sI (sI M1 104 1 (nI s)) 104 2 (nI x)) 14 0 (nI x) = Mb
  have hd : DC (gI M 112) M1 := by
    obtain ⟨⟨d1, d2, d3⟩, d4, d5⟩ := h.dc
    have mm : ∀ o, 3 ≤ o → o ≤ 9 → gI M1 o = gI M o := fun o a b => (m1 o (by omega) (by omega) (by omega)).1
    unfold DC ChC
    rw [mm 3 (by decide) (by decide), mm 4 (by decide) (by decide), mm 7 (by decide) (by decide), mm 8 (by decide) (by decide), mm 9 (by decide) (by decide)]
    exact ⟨⟨d1, d2, d3⟩, d4, d5⟩
  have wb : WKC (gI M 112) (sW (gI M 109)) s x 0 M1 Mb := by
    rw [← hMb]
    refine ⟨fr_sI (fr_sI (fr_sI fr.rfl (by decide)) (by decide)) (by decide), ?_, ?_, fun i => ?_, fun i => ?_⟩
    · rw [gI_sI, if_neg (by decide), gI_sI, if_neg (by decide), gI_sI, if_pos ⟨rfl, rfl⟩]
      rfl
    · rw [gI_sI, if_neg (by decide), gI_sI, if_pos ⟨rfl, rfl⟩]
      rfl
    · rw [gI_sI]
      by_cases c : i = 0
      · rw [if_pos ⟨rfl, c⟩, if_pos (by omega), c]
        rfl
      · rw [if_neg (fun z => c z.2), if_neg (by omega), gI_sI, if_neg (fun z => absurd z.1 (by decide)), gI_sI, if_neg (fun z => absurd z.1 (by decide))]
    · rw [gI_sI, if_neg (fun z => absurd z.1 (by decide)), gI_sI, if_neg (fun z => absurd z.1 (by decide)), gI_sI, if_neg (fun z => absurd z.1 (by decide)), if_neg (by omega)]
  have hWc : ∀ r, r < 3 * cN (gI M 112) → gI M1 11 r = nI (sW (gI M 109) r) := fun r hr => by
    rw [m10 11 (by decide) (by decide), show (11 : Nat) = 10 + 1 from rfl, hR.2.1 r hr]
    exact hS.v3.1 r (by omega)
  obtain ⟨Mf, ef, wf⟩ := walkC_ok (Z := Z) hV hd (by omega) hK hWc hs hx hH c4 wb (fun (M21 : Mem) => bd (gI M21 (10) 4) (fun v22 => bd (sI M21 (10) 6 v22) (fun M23 => bd (gI M23 (104) 1) (fun v24 => bd (sI M23 (10) 5 v24) (fun M25 => bd (gI M25 (104) 2) (fun v26 => some (.ok v26, M25)))))))
  obtain ⟨w1, w2, w3, w4, w5⟩ := wf
  have ff4 : gI Mf 10 4 = nI H := by rw [w1.I (by decide)]; exact c4
  generalize hMc : sI (sI Mf 10 6 (nI H)) 10 5 (nI (wkS s H)) = Mc
  generalize hY : wkX (gI M 112) (sW (gI M 109)) s x H = y at w3
  have f2 : fr lC M1 Mc := by
    rw [← hMc]
    exact fr_sI (fr_sI (w1.mono (by decide)) (by decide)) (by decide)
  obtain ⟨M4, e4, f4, K⟩ := HH Mc (nI y).toInt64 f2
  obtain ⟨s1, s2, s3⟩ := chg_sL (v := (nI y).toInt64) h m1 f2
  have j109 : gI M4 109 = gI M 109 := by rw [f4.i (by decide) (by decide), T0_I (by decide), s3]
  have j112 : gI M4 112 = gI M 112 := by rw [f4.i (by decide) (by decide), T0_I (by decide), s2]
  have jc : ∀ o, 10 ≤ o → o < 19 → gI M4 o = gI Mc o := fun o a b => by rw [f4.i (by simp; omega) (by omega), T0_I (by omega), gI_sL']
  obtain ⟨_, M5, e5, w⟩ := walks_ok (Z := Z) hV j112 (by omega) hK (fun r hr => by rw [j109]; exact hS.v3.1 r hr) hs hx hH (by rw [j109]; exact eS0) (by rw [j109]; exact eS1) (by rw [j109]; exact eS2)
  have wk := w.wk hV hK hx hH1 hH
  obtain ⟨r1, r2, r3, r4, r5, r6⟩ := w
  rw [j109] at r2 r5 r6
  have f5 : fr lR M4 M5 := r1.mono (by decide)
  have hy : wkX (gI M 112) (sW (gI M 109)) s x H < cN (gI M 112) := wkX_lt hV hK hx H
  rw [hY] at hy
  have hV5 : VS (gI M 112) (gI M5 109) := by
    refine VS.mk (hS.v0.congr (r2 0 (by omega) (by omega) (by omega))) (hS.v1.congr (r2 1 (by omega) (by omega) (by omega))) ?_ (hS.v3.congr (fun r hr => r2 _ (by omega) (by omega) (by omega))) (V4.congr hN.2 h.z.2.1 hS.v4 (fun r hr => r2 _ (by omega) (by omega) (by omega))) (hS.v5.congr (fun k hk => r2 _ (by omega) (by omega) (by omega))) wk.v6
    have := wkS_lt hs H
    unfold V2
    rw [pn_n r3 (by omega)]
    exact ⟨r3, this⟩
  have mc : ∀ o, 10 < o → o < 14 → gI M5 o = gI M o := fun o a b => by
    rw [r1.I (by simp; omega), jc o (by omega) (by omega), ← hMc, gI_sI', if_neg (by omega), gI_sI', if_neg (by omega), w1.I (by simp; omega), m10 o (by omega) (by omega)]
  have m10' : ∀ k, gI M5 10 k = if k = 5 then nI (wkS s H) else if k = 6 then nI H else gI M 10 k := fun k => by
    rw [r1.I (by decide), jc 10 (by omega) (by omega), ← hMc, gI_sI, gI_sI, w1.I (by decide), m10 10 (by omega) (by omega)]
    simp only [true_and]
  have m14 : ∀ k, gI M5 14 k = if k ≤ H then nI (wkX (gI M 112) (sW (gI M 109)) s x k) else gI M 14 k := fun k => by
    rw [r1.I (by decide), jc 14 (by omega) (by omega), ← hMc, gI_sI', if_neg (by decide), gI_sI', if_neg (by decide), w4, m10 14 (by omega) (by omega)]
  have m15 : ∀ k, gI M5 15 k = if k < H then nI (wkA (gI M 112) (sW (gI M 109)) s x k) else gI M 15 k := fun k => by
    rw [r1.I (by decide), jc 15 (by omega) (by omega), ← hMc, gI_sI', if_neg (by decide), gI_sI', if_neg (by decide), w5, m10 15 (by omega) (by omega)]
  have hR5 : RS (gI M 112) M5 10 (gI M5 109) := by
    obtain ⟨⟨a1, a2, a3, a4⟩, b1, c, d, e, f⟩ := hR
    refine ⟨⟨?_, ?_, ?_, ?_⟩, fun r hr => ?_, fun x hx => ?_, fun k hk => ?_, fun t ht => ?_, fun t ht => ?_⟩
    · rw [m10', if_neg (by decide), if_neg (by decide), r2 0 (by omega) (by omega) (by omega)]; exact a1
    · rw [m10', if_neg (by decide), if_neg (by decide), r2 1 (by omega) (by omega) (by omega)]; exact a2
    · rw [m10', if_pos rfl, r3]
    · rw [m10', if_neg (by decide), if_pos rfl, r4]
    · rw [mc (10 + 1) (by decide) (by decide), r2 _ (by omega) (by omega) (by omega)]; exact b1 r hr
    · obtain ⟨q, q1, q2, q3⟩ := c x hx
      have := h.z.2.1 x
      exact ⟨q, q1, by rw [mc (10 + 2) (by decide) (by decide)]; exact q2, fun a ha => by rw [r2 _ (by omega) (by omega) (by omega)]; exact q3 a ha⟩
    · rw [mc (10 + 3) (by decide) (by decide), r2 _ (by omega) (by omega) (by omega)]; exact d k hk
    · show gI M5 14 t = _
      rw [m14, r5 t ht]
      by_cases g : t ≤ H
      · rw [if_pos g, if_pos g]
      · rw [if_neg g, if_neg g]; exact e t ht
    · show gI M5 15 t = _
      rw [m15, r6 t ht]
      by_cases g : t < H
      · rw [if_pos g, if_pos g]
      · rw [if_neg g, if_neg g]; exact f t ht
  obtain ⟨i5, z5, o5⟩ := K _ f5 hV5 hR5
  refine ⟨nI y, nI y, Mc, M5, ?_, ?_, i5, z5, o5⟩
  · unfold f_X11_walk
    rw [h.nC, clT_ok, e1, cl_some, bd_eq, c5, bd_eq, bd_eq, gI_sI, if_neg (by decide), c3, bd_eq, bd_eq, gI_sI, if_neg (by decide), gI_sI, if_neg (by decide), c3, i0, wrI_n (by decide) (by decide), hMb, ef]
    rw [bd_eq, ff4, bd_eq, bd_eq, gI_sI, if_neg (by decide), w2, bd_eq, bd_eq, gI_sI, if_neg (by decide), gI_sI, if_neg (by decide), w3, hMc]
  · show f_X12_walk Z (sL Mc 124 0 (nI y).toInt64) = _
    unfold f_X12_walk
    rw [noChainT s1, cl_some, if_pos rfl, e4, cl_some, e5, cl_some, show (3 : Int32) = nI 3 from rfl, rdI_n (by decide) (by decide), r4, show (43 : Int32) = nI 43 from rfl, nI_add, rdI_n (by omega) (by decide), r5 H (by omega), if_pos (Nat.le_refl _), hY]
theorem ck_walk {Z : Nat} {M : Mem} (hZ : 4000 < Z) (hI : Inv M) : CK (f_L_walk Z M) (fun M => f_X12_walk Z M) (·.toInt64) := by
  unfold f_L_walk
  rcases hI.2.2.2.2.2 with h | h
  · exact CK.er hI (e := 0) (c := 1) (w := 0) (by unfold f_X11_walk; rw [needChain0 h.2.1]; rfl) rfl (by decide) (by unfold f_X12_walk; rw [noChain0 h.1]; rfl)
  · exact CK.mk (ok_walk hZ hI h)
theorem b_law_56 {Z L a : Nat} {xs : Nat → Int32} {M : Mem} {j : Mem → Option Unit} (hZ : 4000 < Z) (hI : Inv M) (ha : a + 6 ≤ L) (hL : L ≤ 3072) (hj : ∀ M1, Inv M1 → j M1 = some ()) : f_law_56 Z L xs M (nI a) j = some () := by
  unfold f_law_56
  exact (ck_walk hZ hI).tail hj
