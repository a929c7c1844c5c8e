/-! append -/
theorem nar8 (z : Int32) : vp_nar .byte z.toInt8.toInt32 = z.toInt8.toInt32 := pk_vb z
theorem low8 (z : Int32) : ∃ v, v < 256 ∧ z &&& (255 : Int32) = nI v ∧ z.toInt8.toInt32 = (nI v).toInt8.toInt32 := by
  refine ⟨z.toBitVec.toNat % 256, Nat.mod_lt _ (by decide), ?_, ?_⟩
  · apply Int32.toBitVec_inj.mp
    apply BitVec.eq_of_toNat_eq
    rw [Int32.toBitVec_and, BitVec.toNat_and]
    show z.toBitVec.toNat &&& 255 = (BitVec.ofNat 32 (z.toBitVec.toNat % 256)).toNat
    rw [BitVec.toNat_ofNat, show (255 : Nat) = 2 ^ 8 - 1 from rfl, Nat.and_two_pow_sub_one_eq_mod]
    have := Nat.mod_lt z.toBitVec.toNat (show 0 < 256 by decide)
    omega
  · have e : z.toInt8 = (nI (z.toBitVec.toNat % 256)).toInt8 := by
      apply Int8.toBitVec_inj.mp
      apply BitVec.eq_of_toNat_eq
      show (z.toBitVec.signExtend 8).toNat = ((BitVec.ofNat 32 (z.toBitVec.toNat % 256)).signExtend 8).toNat
      rw [BitVec.signExtend_eq_setWidth_of_le _ (by decide), BitVec.signExtend_eq_setWidth_of_le _ (by decide), BitVec.toNat_setWidth, BitVec.toNat_setWidth, BitVec.toNat_ofNat]
      omega
    rw [e]
theorem put_ok {Z : Nat} {M : Mem} (hZ : 10 < Z) {q : Nat} (hq : q + 4 ≤ 1200) (h : gI M 1 1 = nI q) (p : Int32) : ∃ M', f_X2_put Z M p = some ((), M') ∧ fr [1, 2] M M' ∧ gI M' 1 1 = nI (q + 4) ∧ ∀ i, gI M' 2 i = if q ≤ i ∧ i < q + 4 then (p >>> (nI (24 - 8 * (i - q)) &&& 31)).toInt8.toInt32 else gI M 2 i := by
  obtain ⟨n, rfl⟩ : ∃ n, Z = n + 5 := ⟨Z - 5, by omega⟩
  have st : ∀ (m k : Nat) (M1 : Mem), k < 4 → gI M1 1 1 = nI (q + k) → f_X2_put_L3 (n + 5) p (m + 1) (nI (24 - 8 * k)) M1 = f_X2_put_L3 (n + 5) p m (nI (24 - 8 * k) + (-8 : Int32)) (sI (sI M1 2 (q + k) ((p >>> (nI (24 - 8 * k) &&& 31)).toInt8.toInt32)) 1 1 (nI (q + k + 1))) := fun m k M1 hk hM => by
    rw [f_X2_put_L3, if_neg (fun z => absurd (Int32.lt_iff_toInt_lt.mp z) (by rw [nI_toInt (by omega), Int32.toInt_zero]; omega)), bd_eq, hM, if_neg (by rw [show (1200 : Int32) = nI 1200 from rfl, nI_ile (by omega) (by omega)]; omega), bd_eq, wrB_n (by omega) (by decide), nar8, bd_eq, bd_eq, gI_sI, if_neg (fun z => absurd z.1 (by decide)), hM, i1, nI_add]
  have e24 : (24 : Int32) = nI (24 - 8 * 0) := rfl
  have a0 : nI (24 - 8 * 0) + (-8 : Int32) = nI (24 - 8 * 1) := by decide
  have a1 : nI (24 - 8 * 1) + (-8 : Int32) = nI (24 - 8 * 2) := by decide
  have a2 : nI (24 - 8 * 2) + (-8 : Int32) = nI (24 - 8 * 3) := by decide
  have a3 : nI (24 - 8 * 3) + (-8 : Int32) < 0 := by decide
  unfold f_X2_put
  rw [e24, st (n + 4) 0 M (by decide) h, a0]
  generalize h1 : sI (sI M 2 (q + 0) ((p >>> (nI (24 - 8 * 0) &&& 31)).toInt8.toInt32)) 1 1 (nI (q + 0 + 1)) = M1
  rw [st (n + 3) 1 M1 (by decide) (by rw [← h1, gI_sI, if_pos ⟨rfl, rfl⟩]), a1]
  generalize h2 : sI (sI M1 2 (q + 1) ((p >>> (nI (24 - 8 * 1) &&& 31)).toInt8.toInt32)) 1 1 (nI (q + 1 + 1)) = M2
  rw [st (n + 2) 2 M2 (by decide) (by rw [← h2, gI_sI, if_pos ⟨rfl, rfl⟩]), a2]
  generalize h3 : sI (sI M2 2 (q + 2) ((p >>> (nI (24 - 8 * 2) &&& 31)).toInt8.toInt32)) 1 1 (nI (q + 2 + 1)) = M3
  rw [st (n + 1) 3 M3 (by decide) (by rw [← h3, gI_sI, if_pos ⟨rfl, rfl⟩])]
  generalize h4 : sI (sI M3 2 (q + 3) ((p >>> (nI (24 - 8 * 3) &&& 31)).toInt8.toInt32)) 1 1 (nI (q + 3 + 1)) = M4
  rw [f_X2_put_L3, if_pos a3]
  refine ⟨M4, rfl, ?_, ?_, fun i => ?_⟩
  · rw [← h4, ← h3, ← h2, ← h1]
    exact fr_sI (fr_sI (fr_sI (fr_sI (fr_sI (fr_sI (fr_sI (fr_sI fr.rfl (by decide)) (by decide)) (by decide)) (by decide)) (by decide)) (by decide)) (by decide)) (by decide)
  · rw [← h4, gI_sI, if_pos ⟨rfl, rfl⟩]
  · have s : ∀ {M5 M6 : Mem} {k : Nat} {v w : Int32}, sI (sI M5 2 (q + k) v) 1 1 w = M6 → gI M6 2 i = if i = q + k then v else gI M5 2 i := fun {M5 M6 k v w} e => by
      rw [← e, gI_sI, if_neg (fun z => absurd z.1 (by decide)), gI_sI]
      simp only [true_and]
    rw [s h4, s h3, s h2, s h1]
    by_cases c : q ≤ i ∧ i < q + 4
    · rw [if_pos c]
      have h9 : i = q + 0 ∨ i = q + 1 ∨ i = q + 2 ∨ i = q + 3 := by omega
      rcases h9 with g | g | g | g
      · rw [if_neg (by omega), if_neg (by omega), if_neg (by omega), if_pos g, show i - q = 0 by omega]
      · rw [if_neg (by omega), if_neg (by omega), if_pos g, show i - q = 1 by omega]
      · rw [if_neg (by omega), if_pos g, show i - q = 2 by omega]
      · rw [if_pos g, show i - q = 3 by omega]
    · rw [if_neg c, if_neg (by omega), if_neg (by omega), if_neg (by omega), if_neg (by omega)]
/-- the byte k of five words -/
def by5 (p0 p1 p2 p3 p4 : Int32) (k : Nat) : Int32 := (if 4 ≤ k then (if 8 ≤ k then (if 12 ≤ k then (if 16 ≤ k then p4 else p3) else p2) else p1) else p0) >>> (nI (24 - 8 * (k % 4)) &&& 31)
theorem appendC_ok {Z : Nat} {M : Mem} (hZ : 10 < Z) {q : Nat} (hq : q + 20 ≤ 1200) (h : gI M 1 1 = nI q) (p0 p1 p2 p3 p4 : Int32) : ∃ M', f_X11_append Z M p0 p1 p2 p3 p4 = some (nI (q + 20), M') ∧ fr [1, 2] M M' ∧ gI M' 1 1 = nI (q + 20) ∧ ∀ i, gI M' 2 i = if q ≤ i ∧ i < q + 20 then (by5 p0 p1 p2 p3 p4 (i - q)).toInt8.toInt32 else gI M 2 i := by
  obtain ⟨M1, e1, f1, c1, d1⟩ := put_ok hZ (by omega) h p0
  obtain ⟨M2, e2, f2, c2, d2⟩ := put_ok hZ (by omega) c1 p1
  obtain ⟨M3, e3, f3, c3, d3⟩ := put_ok hZ (by omega) c2 p2
  obtain ⟨M4, e4, f4, c4, d4⟩ := put_ok hZ (by omega) c3 p3
  obtain ⟨M5, e5, f5, c5, d5⟩ := put_ok hZ (by omega) c4 p4
  refine ⟨M5, ?_, (((f1.trans f2).trans f3).trans f4).trans f5, c5, fun i => ?_⟩
  · unfold f_X11_append f_X2_hasRoom
    rw [bd_eq, h, show (20 : Int32) = nI 20 from rfl, nI_add, show (1200 : Int32) = nI 1200 from rfl, if_neg (by rw [nI_ilt (by omega) (by omega)]; omega), cl_some, if_neg (by decide), e1, cl_some, e2, cl_some, e3, cl_some, e4, cl_some, e5, cl_some, bd_eq, c5]
  · rw [d5, d4, d3, d2, d1]
    unfold by5
    by_cases c : q ≤ i ∧ i < q + 20
    · rw [if_pos c]
      by_cases g4 : q + 16 ≤ i
      · rw [if_pos (by omega), if_pos (by omega), if_pos (by omega), if_pos (by omega), if_pos (by omega), show i - (q + 4 + 4 + 4 + 4) = (i - q) % 4 by omega]
      · rw [if_neg (by omega)]
        by_cases g3 : q + 12 ≤ i
        · rw [if_pos (by omega), if_pos (by omega), if_pos (by omega), if_pos (by omega), if_neg (by omega), show i - (q + 4 + 4 + 4) = (i - q) % 4 by omega]
        · rw [if_neg (by omega)]
          by_cases g2 : q + 8 ≤ i
          · rw [if_pos (by omega), if_pos (by omega), if_pos (by omega), if_neg (by omega), show i - (q + 4 + 4) = (i - q) % 4 by omega]
          · rw [if_neg (by omega)]
            by_cases g1 : q + 4 ≤ i
            · rw [if_pos (by omega), if_pos (by omega), if_neg (by omega), show i - (q + 4) = (i - q) % 4 by omega]
            · rw [if_neg (by omega), if_pos (by omega), if_neg (by omega), show i - q = (i - q) % 4 by omega, show (i - q) % 4 % 4 = (i - q) % 4 by omega]
    · rw [if_neg c, if_neg (by omega), if_neg (by omega), if_neg (by omega), if_neg (by omega), if_neg (by omega)]
theorem appendR_ok {Z : Nat} {M : Mem} (hZ : 30 < Z) {q : Nat} (hq : q + 20 ≤ 1200) (h : gI M 108 9 = nI q) (p0 p1 p2 p3 p4 : Int32) : ∃ M', f_X12_append Z M p0 p1 p2 p3 p4 = some (nI (q + 20), M') ∧ fr [108, 114] M M' ∧ gI M' 108 9 = nI (q + 20) ∧ (∀ k, k ≠ 0 → k ≠ 9 → gI M' 108 k = gI M 108 k) ∧ ∀ i, gI M' 114 i = if q ≤ i ∧ i < q + 20 then by5 p0 p1 p2 p3 p4 (i - q) &&& 255 else gI M 114 i := by
  unfold f_X12_append
  rw [bd_eq, bd_eq, gI_sI, if_neg (show ¬ ((108 : Nat) = 108 ∧ (9 : Nat) = 0) by decide), h, show (20 : Int32) = nI 20 from rfl, nI_add, show (1200 : Int32) = nI 1200 from rfl, if_pos (by rw [nI_ile (by omega) (by omega)]; omega), i0]
  have jj : ∀ {β : Type} (k : Nat), k < 20 → ∀ (F : Int32 → β), jn F (fun j8 => (if (4 : Int32) ≤ nI k then (if (8 : Int32) ≤ nI k then (if (12 : Int32) ≤ nI k then (if (16 : Int32) ≤ nI k then j8 p4 else j8 p3) else j8 p2) else j8 p1) else j8 p0)) = F (if 4 ≤ k then (if 8 ≤ k then (if 12 ≤ k then (if 16 ≤ k then p4 else p3) else p2) else p1) else p0) := fun k hk F => by
    rw [jn_eq, show (4 : Int32) = nI 4 from rfl, show (8 : Int32) = nI 8 from rfl, show (12 : Int32) = nI 12 from rfl, show (16 : Int32) = nI 16 from rfl]
    simp (disch := omega) only [nI_ile]
    repeat' split
    all_goals rfl
  refine lpS (σ := Mem) (fun m k M' => f_X12_append_L23 Z p0 p1 p2 p3 p4 (fun (M9 : Mem) => bd (gI M9 (108) 9) (fun v10 => bd (sI M9 (108) 9 (v10 + nI 20)) (fun M11 => bd (gI M11 (108) 9) (fun v12 => some (v12, M11))))) m (nI k) M') (fun r => ∃ M', r = some (nI (q + 20), M') ∧ fr [108, 114] M M' ∧ gI M' 108 9 = nI (q + 20) ∧ (∀ k, k ≠ 0 → k ≠ 9 → gI M' 108 k = gI M 108 k) ∧ ∀ i, gI M' 114 i = if q ≤ i ∧ i < q + 20 then by5 p0 p1 p2 p3 p4 (i - q) &&& 255 else gI M 114 i) (fun k M' => fr [114] (sI M 108 0 (nI 0)) M' ∧ ∀ i, gI M' 114 i = if q ≤ i ∧ i < q + k then by5 p0 p1 p2 p3 p4 (i - q) &&& 255 else gI M 114 i) 0 20 (by omega) (by omega) ⟨fr.rfl, fun i => by rw [if_neg (by omega), gI_sI, if_neg (fun z => absurd z.1 (by decide))]⟩ ?_ ?_
  · intro m k M' _ hk hI K
    obtain ⟨g1, g2⟩ := hI
    have e9 : gI M' 108 9 = nI q := by rw [g1.I (by decide), gI_sI, if_neg (by decide)]; exact h
    have K1 := K (sI M' 114 (q + k) (by5 p0 p1 p2 p3 p4 k &&& 255)) ⟨fr_sI g1 (by decide), fun i => by
      rw [gI_sI, g2]
      by_cases c : i = q + k
      · rw [if_pos ⟨rfl, c⟩, if_pos (by omega), show i - q = k by omega]
      · rw [if_neg (fun z => c z.2)]
        by_cases d : q ≤ i ∧ i < q + k
        · rw [if_pos d, if_pos (by omega)]
        · rw [if_neg d, if_neg (by omega)]⟩
    rw [f_X12_append_L23, if_neg (by rw [show (20 : Int32) = nI 20 from rfl, nI_ile (by omega) (by omega)]; omega), jj k hk, bd_eq, e9, nzI_n (by decide), nI_add, show (4 : Int32) = nI 4 from rfl, nI_mod (by omega) (by decide), show (8 : Int32) = nI 8 from rfl, show (24 : Int32) = nI 24 from rfl, nI_mul, nI_sub (by omega), wrI_n (by omega) (by decide), i1, nI_add]
    exact K1
  · intro m M' hI
    obtain ⟨g1, g2⟩ := hI
    have e9 : gI M' 108 9 = nI q := by rw [g1.I (by decide), gI_sI, if_neg (by decide)]; exact h
    rw [f_X12_append_L23, if_pos (by decide), bd_eq, e9, nI_add, bd_eq, bd_eq, gI_sI, if_pos ⟨rfl, rfl⟩]
    refine ⟨_, rfl, fr_sI ((fr_sI fr.rfl (by decide)).trans (g1.mono (by decide))) (by decide), by rw [gI_sI, if_pos ⟨rfl, rfl⟩], fun k a b => ?_, fun i => ?_⟩
    · rw [gI_sI, if_neg (fun z => b z.2), g1.I (by decide), gI_sI, if_neg (fun z => a z.2)]
    · rw [gI_sI, if_neg (fun z => absurd z.1 (by decide))]
      exact g2 i
theorem b_law_0 {Z L a : Nat} {xs : Nat → Int32} {M : Mem} {j : Mem → Option Unit} (hZ : 4000 < Z) (hI : Inv M) (ha : a + 6 ≤ L) (hL : L ≤ 3072) (hj : ∀ M1, Inv M1 → j M1 = some ()) : f_law_0 Z L xs M (nI a) j = some () := by
  unfold f_law_0
  simp (disch := omega) only [i1, i2, i3, i4, i5, nI_add, rdX_n]
  generalize xs (a + 1) = p0
  generalize xs (a + 2) = p1
  generalize xs (a + 3) = p2
  generalize xs (a + 4) = p3
  generalize xs (a + 5) = p4
  obtain ⟨b1, b2, b3, b4⟩ := hI.ib
  generalize hq : pn (gI M 108) 9 = q at *
  have b0 : gI M 1 1 = nI q := b1.trans b2
  by_cases c : q + 20 ≤ 1200
  · obtain ⟨M1, e1, f1, c1, d1⟩ := appendC_ok (Z := Z) (by omega) c b0 p0 p1 p2 p3 p4
    obtain ⟨M2, e2, f2, c2, k2, d2⟩ := appendR_ok (Z := Z) (M := M1) (by omega) c (by rw [f1.I (by decide)]; exact b2) p0 p1 p2 p3 p4
    rw [e1, cl_some, e2, cl_some, if_pos rfl]
    refine hj _ ?_
    have khm : kh M M2 := by
      refine (kh.of f1 (by decide) (by decide)).trans ⟨fun o ho => f2 o (fun z => ho ?_), k2 1 (by decide) (by decide), k2 4 (by decide) (by decide)⟩
      rcases List.mem_cons.mp z with g | g
      · rw [g]; decide
      · rw [List.mem_singleton.mp g]; decide
    have un : ∀ o, o ≠ 1 → o ≠ 2 → o ≠ 108 → o ≠ 114 → gI M2 o = gI M o ∧ gR M2 o = gR M o := fun o h1 h2 h3 h4 => by
      have a1 : o ∉ [108, 114] := by simp [h3, h4]
      have a2 : o ∉ [1, 2] := by simp [h1, h2]
      rw [f2.I a1, f2.R a1, f1.I a2, f1.R a2]
      exact ⟨rfl, rfl⟩
    have k8 : ∀ k, k ≠ 0 → k ≠ 9 → gI M2 108 k = gI M 108 k := fun k x y => by rw [k2 k x y, f1.I (by decide)]
    refine Inv.mk ⟨?_, ?_, ?_, fun i hi => ?_⟩ ?_ (hI.it.to (un 105 (by decide) (by decide) (by decide) (by decide)).1 (k8 31 (by decide) (by decide)) (un 106 (by decide) (by decide) (by decide) (by decide)).1 (un 123 (by decide) (by decide) (by decide) (by decide)).1) (hI.is.to (un 37 (by decide) (by decide) (by decide) (by decide)).2) (hI.ih.to (un 92 (by decide) (by decide) (by decide) (by decide)).2 (un 33 (by decide) (by decide) (by decide) (by decide)).1 (un 34 (by decide) (by decide) (by decide) (by decide)).1) (hI.2.2.2.2.2.elim (fun h => Or.inl (h.kh khm)) (fun h => Or.inr (h.kh khm)))
    · rw [f2.I (by decide), c1, c2]
    · rw [pn_n c2 (by omega)]
      exact c2
    · rw [pn_n c2 (by omega)]
      exact c
    · rw [pn_n c2 (by omega)] at hi
      rw [d2, f2.I (by decide), d1, f1.I (by decide)]
      by_cases g : q ≤ i
      · rw [if_pos ⟨g, hi⟩, if_pos ⟨g, hi⟩]
        exact low8 _
      · rw [if_neg (fun z => g z.1), if_neg (fun z => g z.1)]
        exact b4 i (by omega)
    · rw [(un 21 (by decide) (by decide) (by decide) (by decide)).1, k8 10 (by decide) (by decide), k8 11 (by decide) (by decide)]
      exact hI.2.1
  · have e1 : f_X11_append Z M p0 p1 p2 p3 p4 = some (-1, M) := by
      unfold f_X11_append f_X2_hasRoom
      rw [bd_eq, b0, show (20 : Int32) = nI 20 from rfl, nI_add, show (1200 : Int32) = nI 1200 from rfl, if_pos (by rw [nI_ilt (by omega) (by omega)]; omega), cl_some, if_pos rfl]
    have e2 : f_X12_append Z M p0 p1 p2 p3 p4 = some (-1, T0 M) := by
      unfold f_X12_append
      rw [bd_eq, bd_eq, gI_sI, if_neg (show ¬ ((108 : Nat) = 108 ∧ (9 : Nat) = 0) by decide), b2, show (20 : Int32) = nI 20 from rfl, nI_add, show (1200 : Int32) = nI 1200 from rfl, if_neg (by rw [nI_ile (by omega) (by omega)]; omega)]
      rfl
    rw [e1, cl_some, e2, cl_some, if_pos rfl]
    exact hj _ (hI.kp T0.kp)
