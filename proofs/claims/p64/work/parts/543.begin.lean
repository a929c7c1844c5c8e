/-! the law's chain is drawn from the start -/
theorem gm2_I {M : Mem} {b : Nat} : gI (gm2 M b) = gI M ∧ gL (gm2 M b) = gL M := ⟨rfl, rfl⟩
theorem gm3_I {M : Mem} {b : Nat} : gI (gm3 M b) = gI M ∧ gL (gm3 M b) = gL M := ⟨rfl, rfl⟩
theorem mH_gI {M : Mem} {o k : Nat} : gI (mH M) o k = if o = 109 ∧ k = 14 then (-1 : Int32) else gI (mN M) o k := by
  simp only [mH, mI18, mI17, mI16, gI_sR, gI_sI]
  simp only [mI15, mI14, mI13, mI12, mI11, mI10, mI9, mI8, mI7, mI6, mI5, mI4, mI3, mI2, mI1, mI0, gI_sR, gm2_I.1, gm3_I.1]
theorem mH_gI' {M : Mem} {o : Nat} (h : o ≠ 109) : gI (mH M) o = gI (mN M) o := funext fun k => by rw [mH_gI, if_neg (fun z => h z.1)]
theorem gL_sR9 (M : Mem) (o k : Nat) (v : Option Nat) : gL (sR M o k v) = gL M := rfl
theorem gL_sI9 (M : Mem) (o k : Nat) (v : Int32) : gL (sI M o k v) = gL M := rfl
theorem mH_gL {M : Mem} : gL (mH M) = gL (mN M) := by
  simp only [mH, mI18, mI17, mI16, mI15, mI14, mI13, mI12, mI11, mI10, mI9, mI8, mI7, mI6, mI5, mI4, mI3, mI2, mI1, mI0, gL_sR9, gL_sI9, gm2_I.2, gm3_I.2]
theorem mN_0 {o k : Nat} (h0 : o ≠ 210) (h1 : o ≠ 211) (h3 : o ≠ 300) : gI (mN mem1) o k = 0 := by
  unfold mN
  rw [apM_nI h0 h1 h3]
  show gI (sI mem1 210 1 0) o k = 0
  rw [gI_sI, if_neg (fun z => h0 z.1)]
  rfl
theorem mN_L0 {o k : Nat} (h1 : o ≠ 211) (h3 : o ≠ 300) : gL (mN mem1) o k = 0 := by
  unfold mN
  rw [apM_nL h1 h3]
  show gL (sL (sI mem1 210 1 0) 211 0 (lN 29)) o k = 0
  rw [gL_sL, if_neg (fun z => h1 z.1)]
  rfl
theorem mH_0 {o k : Nat} (h9 : o ≠ 109) (h0 : o ≠ 210) (h1 : o ≠ 211) (h3 : o ≠ 300) : gI (mH mem1) o k = nI 0 := by
  rw [mH_gI' h9]
  exact mN_0 h0 h1 h3
theorem mH_L0 {o k : Nat} (h1 : o ≠ 211) (h3 : o ≠ 300) : gL (mH mem1) o k = 0 := by
  rw [mH_gL]
  exact mN_L0 h1 h3
theorem mH_R0 {o k : Nat} (h : o < 108 ∨ 210 < o) : gR (mH mem1) o k = none := by
  rw [mH_gR, mN_R]
  repeat rw [if_neg (by omega)]
  unfold mem1
  rw [gR_sR, if_neg (by omega)]
  rfl
theorem ifs {p : Prop} [Decidable p] {a j : Nat} (h : (if p then some a else none) = some j) : p ∧ a = j := by
  by_cases c : p
  · rw [if_pos c] at h
    exact ⟨c, Option.some.inj h⟩
  · rw [if_neg c] at h
    exact nomatch h
theorem mH_Rlo {o k j : Nat} (h : gR (mH mem1) o k = some j) : 108 ≤ j := by
  rw [mH_gR, mN_R] at h
  by_cases c0 : o = 109 ∧ k = 16
  · rw [if_pos c0] at h
    have := Option.some.inj h
    omega
  rw [if_neg c0] at h
  by_cases c1 : o = 109 ∧ k = 15
  · rw [if_pos c1] at h
    have := Option.some.inj h
    omega
  rw [if_neg c1] at h
  by_cases c2 : o = 109 ∧ k = 13
  · rw [if_pos c2] at h
    have := Option.some.inj h
    omega
  rw [if_neg c2] at h
  by_cases c3 : o = 201
  · rw [if_pos c3] at h
    have := (ifs h).2
    omega
  rw [if_neg c3] at h
  by_cases c4 : o = 109 ∧ k = 12
  · rw [if_pos c4] at h
    have := Option.some.inj h
    omega
  rw [if_neg c4] at h
  by_cases c5 : o = 176
  · rw [if_pos c5] at h
    have := (ifs h).2
    omega
  rw [if_neg c5] at h
  by_cases c6 : 176 < o ∧ o < 176 + 25 ∧ (o - 176) % 4 = 1
  · rw [if_pos c6] at h
    have := (ifs h).2
    omega
  rw [if_neg c6] at h
  by_cases c7 : o = 109 ∧ k = 11
  · rw [if_pos c7] at h
    have := Option.some.inj h
    omega
  rw [if_neg c7] at h
  by_cases c8 : o = 151
  · rw [if_pos c8] at h
    have := (ifs h).2
    omega
  rw [if_neg c8] at h
  by_cases c9 : 151 < o ∧ o < 151 + 25 ∧ (o - 151) % 4 = 1
  · rw [if_pos c9] at h
    have := (ifs h).2
    omega
  rw [if_neg c9] at h
  by_cases c10 : o = 109 ∧ k = 10
  · rw [if_pos c10] at h
    have := Option.some.inj h
    omega
  rw [if_neg c10] at h
  by_cases c11 : o = 126
  · rw [if_pos c11] at h
    have := (ifs h).2
    omega
  rw [if_neg c11] at h
  by_cases c12 : 126 < o ∧ o < 126 + 25 ∧ (o - 126) % 4 = 1
  · rw [if_pos c12] at h
    have := (ifs h).2
    omega
  rw [if_neg c12] at h
  by_cases c13 : o = 109 ∧ k = 9
  · rw [if_pos c13] at h
    have := Option.some.inj h
    omega
  rw [if_neg c13] at h
  by_cases c14 : o = 119
  · rw [if_pos c14] at h
    have := (ifs h).2
    omega
  rw [if_neg c14] at h
  by_cases c15 : o = 109 ∧ k = 8
  · rw [if_pos c15] at h
    have := Option.some.inj h
    omega
  rw [if_neg c15] at h
  by_cases c16 : o = 112
  · rw [if_pos c16] at h
    have := (ifs h).2
    omega
  rw [if_neg c16] at h
  by_cases c17 : o = 109 ∧ k = 7
  · rw [if_pos c17] at h
    have := Option.some.inj h
    omega
  rw [if_neg c17] at h
  by_cases c18 : o = 109 ∧ k = 6
  · rw [if_pos c18] at h
    have := Option.some.inj h
    omega
  rw [if_neg c18] at h
  by_cases c19 : o = 109 ∧ k = 0
  · rw [if_pos c19] at h
    have := Option.some.inj h
    omega
  rw [if_neg c19] at h
  by_cases c20 : o = 210 ∧ k = 0
  · rw [if_pos c20] at h
    have := Option.some.inj h
    omega
  rw [if_neg c20] at h
  have := mem1_R _ _ _ h
  omega
theorem TB.of {M M' : Mem} {T : List Nat} (h : TB M T) (e0 : gI M' 210 = gI M 210) (e1 : gI M' 211 = gI M 211) (e3 : gI M' 300 = gI M 300) (l1 : gL M' 211 = gL M 211) (l3 : gL M' 300 = gL M 300) (r3 : gR M' 300 = gR M 300) : TB M' T := by
  unfold TB SBM Z300 vlen
  rw [e0, e1, e3, l1, l3, r3]
  exact h
theorem TB_mH : TB (mH mem1) (WL.getD 10 []) := by
  have h0 : TB (nbM mem1) [] := ⟨⟨29, nbM_sb (mem1_ZE.1 210 (by decide)) (mem1_ZE.1 211 (by decide)) (mem1_ZE.1 300 (by decide))⟩, fun j hj => absurd hj (by simp), fun b hb => absurd hb List.not_mem_nil⟩
  have h1 := h0.app (bs := WL.getD 10 []) (wl_b 10 (by decide)) (by decide)
  rw [List.nil_append] at h1
  refine h1.of (mH_gI' (by decide)) (mH_gI' (by decide)) (mH_gI' (by decide)) (by rw [mH_gL]; rfl) (by rw [mH_gL]; rfl) (funext fun k => ?_)
  rw [mH_R0 (by decide)]
  show none = gR (mN mem1) 300 k
  rw [mN_R, if_neg (by omega)]
  rfl
