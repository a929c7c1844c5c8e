/-! load, both sides -/
theorem CQ0.tr {Q P : Nat → Int32} {M M' : Mem} (h : CQ0 Q M) (hT : ∀ r, r < 18 → cT Q r ≤ 6) (e : ∀ o, 21 ≤ o → o ≤ 34 → gI M' o = gI M o) (he : ∀ i, i < 344 → P i = Q i) : CQ0 P M' := by
  obtain ⟨h1, h2, h3, h4, q, q1, q2, q3⟩ := h
  refine ⟨(h1.congr hT he).at (fun i hi => e _ (by omega) (by omega)), by rw [e 29 (by decide) (by decide), he 2 (by decide), he 3 (by decide), he 4 (by decide)]; exact h2, fun b hb => by rw [e 32 (by decide) (by decide), he _ (by omega)]; exact h3 b hb, by rw [e 31 (by decide) (by decide)]; exact h4, q, q1, by rw [e 21 (by decide) (by decide)]; exact q2, fun x hx => by rw [he _ (by omega)]; exact q3 x hx⟩
theorem CQW.tr {Q P : Nat → Int32} {M M' : Mem} (h : CQW Q M) (e : gI M' 30 = gI M 30) (he : ∀ i, i < 344 → P i = Q i) : CQW P M' := fun x hx a ha => by
  rw [e, he _ (by omega), he _ (by omega)]
  exact h x hx a ha
theorem rLoad_wrong {Z : Nat} {R : Mem} {c p : Nat} (h : erR c p R) (h0 : gI R 108 0 = 0) : rLoad Z R = some (0, sI (sI (sI R 108 10 (nI c)) 108 11 (nI p)) 108 0 2) := by
  have ne : ¬ nI c = (0 : Int32) := by
    have := er_ne h
    rw [h.1] at this
    exact this
  unfold rLoad
  rw [bd_eq, bd_eq, bd_eq, h.1]
  have a19 : gI (sI R 108 10 (nI c)) 108 19 = nI c := by rw [gI_sI, if_neg (by decide)]; exact h.1
  have a20 : gI (sI R 108 10 (nI c)) 108 20 = nI p := by rw [gI_sI, if_neg (by decide)]; exact h.2.2.2
  have b19 : gI (sI (sI R 108 10 (nI c)) 108 11 (nI p)) 108 19 = nI c := by rw [gI_sI, if_neg (by decide)]; exact a19
  have b0 : gI (sI (sI R 108 10 (nI c)) 108 11 (nI p)) 108 0 = 0 := by rw [gI_sI, if_neg (by decide), gI_sI, if_neg (by decide)]; exact h0
  rw [a19, jn_eq, if_neg ne, bd_eq, a20]
  dsimp only
  rw [bd_eq, bd_eq, b19, jn_eq, if_neg ne]
  dsimp only
  rw [ref1 b0 (by decide), cl_some, if_neg (by decide)]
theorem rLoad_right {Z : Nat} {R : Mem} {Q : Nat → Int32} (hZ : 4000 < Z) (h19 : gI R 108 19 = nI 0) (h0 : gI R 108 0 = 0) (hQ : gI R 113 = Q) (hV : VQ Q) : ∃ M', rLoad Z R = some (nI (sm (cN (gI M' 112)) (cM (gI M' 112))), M') ∧ fr [108, 109, 111, 112] R M' ∧ (∀ k, k ≠ 1 → k ≠ 4 → k ≠ 10 → k ≠ 11 → gI M' 108 k = gI R 108 k) ∧ (gI M' 108 1 = nI 1 ∧ gI M' 108 4 = nI 0 ∧ gI M' 108 10 = 0 ∧ gI M' 108 11 = -1) ∧ (gI M' 111 0 = nI 0 ∧ gI M' 111 1 = nI 0) ∧ (∀ i, i < 344 → gI M' 112 i = Q i) ∧ (∀ i, i < 3 → gI M' 109 i = gI M' 112 (2 + i)) ∧ gI M' 109 3 = -1 ∧ (∀ i, i < 3 → gI M' 109 (40 + i) = gI M' 112 (5 + i)) ∧ (∀ i, 43 ≤ i → i < 54 → gI M' 109 i = nI 0) ∧ ∀ y, y < 6 → ∀ a, a < 3 → (y < cN (gI M' 112) ∧ a < cM (gI M' 112) y → gI M' 109 (4 + (y * 3 + a)) = nI (wS (gI M' 112) y a) ∧ gI M' 109 (22 + (y * 3 + a)) = nI 1) ∧ (¬ (y < cN (gI M' 112) ∧ a < cM (gI M' 112) y) → gI M' 109 (4 + (y * 3 + a)) = nI 0 ∧ gI M' 109 (22 + (y * 3 + a)) = nI 0) := by
  have a19 : gI (sI R 108 10 (nI 0)) 108 19 = nI 0 := by rw [gI_sI, if_neg (by decide)]; exact h19
  have b19 : gI (sI (sI R 108 10 (nI 0)) 108 11 (-1 : Int32)) 108 19 = nI 0 := by rw [gI_sI, if_neg (by decide)]; exact a19
  have b0 : gI (sI (sI R 108 10 (nI 0)) 108 11 (-1 : Int32)) 108 0 = 0 := by rw [gI_sI, if_neg (by decide), gI_sI, if_neg (by decide)]; exact h0
  have f1 : fr [108] R (sI (sI (sI R 108 10 (nI 0)) 108 11 (-1 : Int32)) 108 1 (1 : Int32)) := fr_sI (fr_sI (fr_sI fr.rfl (by decide)) (by decide)) (by decide)
  have v1 : gI (sI (sI (sI R 108 10 (nI 0)) 108 11 (-1 : Int32)) 108 1 (1 : Int32)) 108 1 = nI 1 := by rw [gI_sI, if_pos ⟨rfl, rfl⟩]; rfl
  have v11 : gI (sI (sI (sI R 108 10 (nI 0)) 108 11 (-1 : Int32)) 108 1 (1 : Int32)) 108 11 = -1 := by rw [gI_sI, if_neg (by decide), gI_sI, if_pos ⟨rfl, rfl⟩]
  have v10 : gI (sI (sI (sI R 108 10 (nI 0)) 108 11 (-1 : Int32)) 108 1 (1 : Int32)) 108 10 = 0 := by rw [gI_sI, if_neg (by decide), gI_sI, if_neg (by decide), gI_sI, if_pos ⟨rfl, rfl⟩]; rfl
  have vk : ∀ k, k ≠ 1 → k ≠ 10 → k ≠ 11 → gI (sI (sI (sI R 108 10 (nI 0)) 108 11 (-1 : Int32)) 108 1 (1 : Int32)) 108 k = gI R 108 k := fun k a b c => by
    rw [gI_sI, if_neg (fun z => a z.2), gI_sI, if_neg (fun z => c z.2), gI_sI, if_neg (fun z => b z.2)]
  unfold rLoad
  rw [bd_eq, bd_eq, bd_eq, h19, a19, jn_eq, if_pos (show nI 0 = (0 : Int32) from rfl)]
  dsimp only
  rw [bd_eq, bd_eq, b19, jn_eq, if_pos (show nI 0 = (0 : Int32) from rfl)]
  dsimp only
  rw [ref0 b0, cl_some, if_pos rfl, bd_eq]
  generalize sI (sI (sI R 108 10 (nI 0)) 108 11 (-1 : Int32)) 108 1 (1 : Int32) = M20 at *
  obtain ⟨M25, e2, f2, w2⟩ := rowCopy (Z := Z) (M := M20) hZ (fun (M25 : Mem) => bd (sI M25 (108) 4 (0 : Int32)) (fun M26 => wrZ M26 111 2 (0 : Int32) (0 : Int32) (fun M27 => wrZ M27 111 2 (1 : Int32) (0 : Int32) (fun M28 => cl (f_X12_starts Z M28) (fun v29 M30 => some (v29, M30))))))
  rw [e2]
  try dsimp only
  have z0 : ∀ (M9 : Mem) (K : Mem → Option (Int32 × Mem)), wrZ M9 111 2 (0 : Int32) (0 : Int32) K = K (sI M9 111 0 (nI 0)) := fun M9 K => (wrZ_n (j := 0) (by decide) (by decide)).trans (by rw [nz0])
  have z1 : ∀ (M9 : Mem) (K : Mem → Option (Int32 × Mem)), wrZ M9 111 2 (1 : Int32) (0 : Int32) K = K (sI M9 111 1 (nI 0)) := fun M9 K => (wrZ_n (j := 1) (by decide) (by decide)).trans (by rw [nz0])
  rw [bd_eq, z0, z1]
  have f3 : fr [108, 111] M25 (sI (sI (sI M25 108 4 (0 : Int32)) 111 0 (nI 0)) 111 1 (nI 0)) := fr_sI (fr_sI (fr_sI fr.rfl (by decide)) (by decide)) (by decide)
  have u4 : gI (sI (sI (sI M25 108 4 (0 : Int32)) 111 0 (nI 0)) 111 1 (nI 0)) 108 4 = nI 0 := by rw [gI_sI, if_neg (by decide), gI_sI, if_neg (by decide), gI_sI, if_pos ⟨rfl, rfl⟩]; rfl
  have uk : ∀ k, k ≠ 4 → gI (sI (sI (sI M25 108 4 (0 : Int32)) 111 0 (nI 0)) 111 1 (nI 0)) 108 k = gI M25 108 k := fun k hk => by rw [gI_sI, if_neg (fun z => absurd z.1 (by decide)), gI_sI, if_neg (fun z => absurd z.1 (by decide)), gI_sI, if_neg (fun z => hk z.2)]
  have t0 : gI (sI (sI (sI M25 108 4 (0 : Int32)) 111 0 (nI 0)) 111 1 (nI 0)) 111 0 = nI 0 := by rw [gI_sI, if_neg (by decide), gI_sI, if_pos ⟨rfl, rfl⟩]
  have t1 : gI (sI (sI (sI M25 108 4 (0 : Int32)) 111 0 (nI 0)) 111 1 (nI 0)) 111 1 = nI 0 := by rw [gI_sI, if_pos ⟨rfl, rfl⟩]
  generalize sI (sI (sI M25 108 4 (0 : Int32)) 111 0 (nI 0)) 111 1 (nI 0) = M28 at *
  have hP : ∀ i, i < 344 → gI M28 112 i = Q i := fun i hi => by rw [f3.I (by decide), w2 i hi, f1.I (by decide), hQ]
  have hVP : VQ (gI M28 112) := hV.same hP
  obtain ⟨M', e4, f4, g1, g2, g3, g4, g5⟩ := starts_ok (M := M28) hZ hVP rfl
  have e112 : gI M' 112 = gI M28 112 := f4.I (by decide)
  rw [e4, cl_some]
  refine ⟨M', by rw [e112], (((f1.mono (by decide)).trans (f2.mono (by decide))).trans (f3.mono (by decide))).trans (f4.mono (by decide)), fun k a b c d => ?_, ⟨?_, ?_, ?_, ?_⟩, ⟨?_, ?_⟩, fun i hi => by rw [e112]; exact hP i hi, fun i hi => by rw [e112]; exact g1 i hi, g2, fun i hi => by rw [e112]; exact g3 i hi, g4, by rw [e112]; exact g5⟩
  · rw [f4.I (by decide), uk k b, f2.I (by decide)]
    exact vk k a c d
  · rw [f4.I (by decide), uk 1 (by decide), f2.I (by decide)]
    exact v1
  · rw [f4.I (by decide)]
    exact u4
  · rw [f4.I (by decide), uk 10 (by decide), f2.I (by decide)]
    exact v10
  · rw [f4.I (by decide), uk 11 (by decide), f2.I (by decide)]
    exact v11
  · rw [f4.I (by decide)]
    exact t0
  · rw [f4.I (by decide)]
    exact t1
def lK : List Nat := [3, 4, 5, 6, 7, 8, 9, 10, 11, 12, 13, 14, 15, 35, 96]
theorem kCopy_ok {Z : Nat} {M : Mem} (hZ : 4000 < Z) : ∃ M', (∀ P : Nat → Int32, RP P M 22 → VW P → kCopy Z M = some (.ok (nI (sm (cN P) (cM P))), M')) ∧ fr lK M M' ∧ (∀ P : Nat → Int32, (∀ r, r < 18 → cT P r ≤ 6) → RP P M 22 → RP P M' 3) ∧ cpd M' 10 M 29 ∧ gI M' 35 0 = nI 0 ∧ gI M' 35 3 = nI 0 ∧ gI M' 96 5 = -1 := by
  obtain ⟨M1, e1, f1, h1⟩ := copyChain (Z := Z) (M := M)
  obtain ⟨_, M2, e2, f2, c2⟩ := copyFrom_ok (Z := Z) (M := M1) (o := 10) (o2 := 29) (Or.inl (by decide))
  have f2' : fr [10, 11, 12, 13, 14, 15] M1 M2 := f2
  have c1 : cpd M2 10 M 29 := by
    unfold cpd at c2 ⊢
    rw [f1.I (show 29 ∉ [3, 4, 5, 6, 7, 8, 9] by decide), f1.I (show 29 + 1 ∉ [3, 4, 5, 6, 7, 8, 9] by decide), f1.I (show 29 + 2 ∉ [3, 4, 5, 6, 7, 8, 9] by decide), f1.I (show 29 + 3 ∉ [3, 4, 5, 6, 7, 8, 9] by decide), f1.I (show 29 + 4 ∉ [3, 4, 5, 6, 7, 8, 9] by decide), f1.I (show 29 + 5 ∉ [3, 4, 5, 6, 7, 8, 9] by decide)] at c2
    exact c2
  have f3 : fr [35, 96] M2 (sI (sI (sI M2 35 0 (0 : Int32)) 35 3 (0 : Int32)) 96 5 (-1 : Int32)) := fr_sI (fr_sI (fr_sI fr.rfl (by decide)) (by decide)) (by decide)
  have a0 : gI (sI (sI (sI M2 35 0 (0 : Int32)) 35 3 (0 : Int32)) 96 5 (-1 : Int32)) 35 0 = nI 0 := by rw [gI_sI, if_neg (by decide), gI_sI, if_neg (by decide), gI_sI, if_pos ⟨rfl, rfl⟩]; rfl
  have a3 : gI (sI (sI (sI M2 35 0 (0 : Int32)) 35 3 (0 : Int32)) 96 5 (-1 : Int32)) 35 3 = nI 0 := by rw [gI_sI, if_neg (by decide), gI_sI, if_pos ⟨rfl, rfl⟩]; rfl
  have a5 : gI (sI (sI (sI M2 35 0 (0 : Int32)) 35 3 (0 : Int32)) 96 5 (-1 : Int32)) 96 5 = -1 := by rw [gI_sI, if_pos ⟨rfl, rfl⟩]
  have un : kCopy Z M = cl (f_X0_countActions Z (sI (sI (sI M2 35 0 (0 : Int32)) 35 3 (0 : Int32)) 96 5 (-1 : Int32)) 3) (fun v13 M14 => some (.ok v13, M14)) := by
    unfold kCopy f_X3_forget f_X5_forget
    rw [e1, cl_some, e2, cl_some, bd_eq, bd_eq, cl_some, bd_eq, cl_some]
  generalize sI (sI (sI M2 35 0 (0 : Int32)) 35 3 (0 : Int32)) 96 5 (-1 : Int32) = M3 at *
  have hR : ∀ P : Nat → Int32, (∀ r, r < 18 → cT P r ≤ 6) → RP P M 22 → RP P M3 3 := fun P hT hP => (h1 P hT hP).at (fun i hi => by
    have i7 : i = 0 ∨ i = 1 ∨ i = 2 ∨ i = 3 ∨ i = 4 ∨ i = 5 ∨ i = 6 := by omega
    rcases i7 with c | c | c | c | c | c | c <;> (subst c; rw [f3.I (by decide), f2'.I (by decide)]))
  refine ⟨M3, fun P hP hW => ?_, ((f1.mono (by decide)).trans (f2'.mono (by decide))).trans (f3.mono (by decide)), hR, ?_, a0, a3, a5⟩
  · rw [un, countA hZ (hR P hW.T hP) hW, cl_some]
  · unfold cpd at c1 ⊢
    rw [f3.I (show 10 ∉ [35, 96] by decide), f3.I (show 10 + 1 ∉ [35, 96] by decide), f3.I (show 10 + 2 ∉ [35, 96] by decide), f3.I (show 10 + 3 ∉ [35, 96] by decide), f3.I (show 10 + 4 ∉ [35, 96] by decide), f3.I (show 10 + 5 ∉ [35, 96] by decide)]
    exact c1
