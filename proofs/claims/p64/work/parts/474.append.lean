/-! append -/
theorem nar8 (z : Int32) : vp_nar .byte z.toInt8.toInt32 = z.toInt8.toInt32 := pk_vb z
theorem low8 (z : Int32) : ∃ v, v < 256 ∧ z &&& (255 : Int32) = nI v ∧ z.toInt8.toInt32 = (nI v).toInt8.toInt32 := by
  refine ⟨z.toBitVec.toNat % 256, Nat.mod_lt _ (by decide), ?_, ?_⟩
  · apply Int32.toBitVec_inj.mp
    apply BitVec.eq_of_toNat_eq
    rw [Int32.toBitVec_and, BitVec.toNat_and]
    show z.toBitVec.toNat &&& 255 = (BitVec.ofNat 32 (z.toBitVec.toNat % 256)).toNat
    rw [BitVec.toNat_ofNat, show (255 : Nat) = 2 ^ 8 - 1 from rfl, Nat.and_two_pow_sub_one_eq_mod]
    have := Nat.mod_lt z.toBitVec.toNat (show 0 < 256 by decide)
    omega
  · have e : z.toInt8 = (nI (z.toBitVec.toNat % 256)).toInt8 := by
      apply Int8.toBitVec_inj.mp
      apply BitVec.eq_of_toNat_eq
      show (z.toBitVec.signExtend 8).toNat = ((BitVec.ofNat 32 (z.toBitVec.toNat % 256)).signExtend 8).toNat
      rw [BitVec.signExtend_eq_setWidth_of_le _ (by decide), BitVec.signExtend_eq_setWidth_of_le _ (by decide), BitVec.toNat_setWidth, BitVec.toNat_setWidth, BitVec.toNat_ofNat]
      omega
    rw [e]
theorem put_ok {Z : Nat} {M : Mem} (hZ : 10 < Z) {q : Nat} (hq : q + 4 ≤ 1200) (h : gI M 1 1 = nI q) (p : Int32) : ∃ M', f_X2_put Z M p = some ((), M') ∧ fr [1, 2] M M' ∧ gI M' 1 1 = nI (q + 4) ∧ ∀ i, gI M' 2 i = if q ≤ i ∧ i < q + 4 then (p >>> (nI (24 - 8 * (i - q)) &&& 31)).toInt8.toInt32 else gI M 2 i := by
  obtain ⟨n, rfl⟩ : ∃ n, Z = n + 5 := ⟨Z - 5, by omega⟩
  have st : ∀ (m k : Nat) (M1 : Mem), k < 4 → gI M1 1 1 = nI (q + k) → f_X2_put_L3 (n + 5) p (m + 1) (nI (24 - 8 * k)) M1 = f_X2_put_L3 (n + 5) p m (nI (24 - 8 * k) + (-8 : Int32)) (sI (sI M1 2 (q + k) ((p >>> (nI (24 - 8 * k) &&& 31)).toInt8.toInt32)) 1 1 (nI (q + k + 1))) := fun m k M1 hk hM => by
    rw [f_X2_put_L3, if_neg (fun z => absurd (Int32.lt_iff_toInt_lt.mp z) (by rw [nI_toInt (by omega), Int32.toInt_zero]; omega)), bd_eq, hM, if_neg (by rw [show (1200 : Int32) = nI 1200 from rfl, nI_ile (by omega) (by omega)]; omega), bd_eq, wrB_n (by omega) (by decide), nar8, bd_eq, bd_eq, gI_sI, if_neg (fun z => absurd z.1 (by decide)), hM, i1, nI_add]
  have e24 : (24 : Int32) = nI (24 - 8 * 0) := rfl
  have a0 : nI (24 - 8 * 0) + (-8 : Int32) = nI (24 - 8 * 1) := by decide
  have a1 : nI (24 - 8 * 1) + (-8 : Int32) = nI (24 - 8 * 2) := by decide
  have a2 : nI (24 - 8 * 2) + (-8 : Int32) = nI (24 - 8 * 3) := by decide
  have a3 : nI (24 - 8 * 3) + (-8 : Int32) < 0 := by decide
  unfold f_X2_put
  rw [e24, st (n + 4) 0 M (by decide) h, a0]
  generalize h1 : sI (sI M 2 (q + 0) ((p >>> (nI (24 - 8 * 0) &&& 31)).toInt8.toInt32)) 1 1 (nI (q + 0 + 1)) = M1
  rw [st (n + 3) 1 M1 (by decide) (by rw [← h1, gI_sI, if_pos ⟨rfl, rfl⟩]), a1]
  generalize h2 : sI (sI M1 2 (q + 1) ((p >>> (nI (24 - 8 * 1) &&& 31)).toInt8.toInt32)) 1 1 (nI (q + 1 + 1)) = M2
  rw [st (n + 2) 2 M2 (by decide) (by rw [← h2, gI_sI, if_pos ⟨rfl, rfl⟩]), a2]
  generalize h3 : sI (sI M2 2 (q + 2) ((p >>> (nI (24 - 8 * 2) &&& 31)).toInt8.toInt32)) 1 1 (nI (q + 2 + 1)) = M3
  rw [st (n + 1) 3 M3 (by decide) (by rw [← h3, gI_sI, if_pos ⟨rfl, rfl⟩])]
  generalize h4 : sI (sI M3 2 (q + 3) ((p >>> (nI (24 - 8 * 3) &&& 31)).toInt8.toInt32)) 1 1 (nI (q + 3 + 1)) = M4
  rw [f_X2_put_L3, if_pos a3]
  refine ⟨M4, rfl, ?_, ?_, fun i => ?_⟩
  · rw [← h4, ← h3, ← h2, ← h1]
    exact fr_sI (fr_sI (fr_sI (fr_sI (fr_sI (fr_sI (fr_sI (fr_sI fr.rfl (by decide)) (by decide)) (by decide)) (by decide)) (by decide)) (by decide)) (by decide)) (by decide)
  · rw [← h4, gI_sI, if_pos ⟨rfl, rfl⟩]
  · have s : ∀ {M5 M6 : Mem} {k : Nat} {v w : Int32}, sI (sI M5 2 (q + k) v) 1 1 w = M6 → gI M6 2 i = if i = q + k then v else gI M5 2 i := fun {M5 M6 k v w} e => by
      rw [← e, gI_sI, if_neg (fun z => absurd z.1 (by decide)), gI_sI]
      simp only [true_and]
    rw [s h4, s h3, s h2, s h1]
    by_cases c : q ≤ i ∧ i < q + 4
    · rw [if_pos c]
      have h9 : i = q + 0 ∨ i = q + 1 ∨ i = q + 2 ∨ i = q + 3 := by omega
      rcases h9 with g | g | g | g
      · rw [if_neg (by omega), if_neg (by omega), if_neg (by omega), if_pos g, show i - q = 0 by omega]
      · rw [if_neg (by omega), if_neg (by omega), if_pos g, show i - q = 1 by omega]
      · rw [if_neg (by omega), if_pos g, show i - q = 2 by omega]
      · rw [if_pos g, show i - q = 3 by omega]
    · rw [if_neg c, if_neg (by omega), if_neg (by omega), if_neg (by omega), if_neg (by omega)]
/-- the byte k of five words -/
def by5 (p0 p1 p2 p3 p4 : Int32) (k : Nat) : Int32 := (if 4 ≤ k then (if 8 ≤ k then (if 12 ≤ k then (if 16 ≤ k then p4 else p3) else p2) else p1) else p0) >>> (nI (24 - 8 * (k % 4)) &&& 31)
theorem appendC_ok {Z : Nat} {M : Mem} (hZ : 10 < Z) {q : Nat} (hq : q + 20 ≤ 1200) (h : gI M 1 1 = nI q) (p0 p1 p2 p3 p4 : Int32) : ∃ M', f_X11_append Z M p0 p1 p2 p3 p4 = some (nI (q + 20), M') ∧ fr [1, 2] M M' ∧ gI M' 1 1 = nI (q + 20) ∧ ∀ i, gI M' 2 i = if q ≤ i ∧ i < q + 20 then (by5 p0 p1 p2 p3 p4 (i - q)).toInt8.toInt32 else gI M 2 i := by
  obtain ⟨M1, e1, f1, c1, d1⟩ := put_ok hZ (by omega) h p0
  obtain ⟨M2, e2, f2, c2, d2⟩ := put_ok hZ (by omega) c1 p1
  obtain ⟨M3, e3, f3, c3, d3⟩ := put_ok hZ (by omega) c2 p2
  obtain ⟨M4, e4, f4, c4, d4⟩ := put_ok hZ (by omega) c3 p3
  obtain ⟨M5, e5, f5, c5, d5⟩ := put_ok hZ (by omega) c4 p4
  refine ⟨M5, ?_, (((f1.trans f2).trans f3).trans f4).trans f5, c5, fun i => ?_⟩
  · unfold f_X11_append f_X2_hasRoom
    rw [bd_eq, h, show (20 : Int32) = nI 20 from rfl, nI_add, show (1200 : Int32) = nI 1200 from rfl, if_neg (by rw [nI_ilt (by omega) (by omega)]; omega), cl_some, if_neg (by decide), e1, cl_some, e2, cl_some, e3, cl_some, e4, cl_some, e5, cl_some, bd_eq, c5]
  · rw [d5, d4, d3, d2, d1]
    unfold by5
    by_cases c : q ≤ i ∧ i < q + 20
    · rw [if_pos c]
      by_cases g4 : q + 16 ≤ i
      · rw [if_pos (by omega), if_pos (by omega), if_pos (by omega), if_pos (by omega), if_pos (by omega), show i - (q + 4 + 4 + 4 + 4) = (i - q) % 4 by omega]
      · rw [if_neg (by omega)]
        by_cases g3 : q + 12 ≤ i
        · rw [if_pos (by omega), if_pos (by omega), if_pos (by omega), if_pos (by omega), if_neg (by omega), show i - (q + 4 + 4 + 4) = (i - q) % 4 by omega]
        · rw [if_neg (by omega)]
          by_cases g2 : q + 8 ≤ i
          · rw [if_pos (by omega), if_pos (by omega), if_pos (by omega), if_neg (by omega), show i - (q + 4 + 4) = (i - q) % 4 by omega]
          · rw [if_neg (by omega)]
            by_cases g1 : q + 4 ≤ i
            · rw [if_pos (by omega), if_pos (by omega), if_neg (by omega), show i - (q + 4) = (i - q) % 4 by omega]
            · rw [if_neg (by omega), if_pos (by omega), if_neg (by omega), show i - q = (i - q) % 4 by omega, show (i - q) % 4 % 4 = (i - q) % 4 by omega]
    · rw [if_neg c, if_neg (by omega), if_neg (by omega), if_neg (by omega), if_neg (by omega), if_neg (by omega)]
