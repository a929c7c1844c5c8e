/-! rows of rows -/
theorem rdQ_n {β : Type} {M : Mem} {o n j r : Nat} {sh : Nat → Option SE} {e : SE} {k : Nat → Option β} (hj : j < n) (hn : n < 1000) (hg : gR M o j = some r) (hs : sh r = some e) : rdQ M o n (nI j) sh e k = k r := by
  unfold rdQ
  rw [if_pos (inB_nI hj (by omega)), nI_clamp (by omega), hg]
  exact if_pos hs
/-- the law's rows: gains, uses, percents, order, permitted; the weights' rows are told apart -/
def RW (M : Mem) : Prop := (∀ x, x < 6 → gR M 112 x = some (113 + x) ∧ gR M 126 x = some (127 + 4 * x) ∧ gR M 151 x = some (152 + 4 * x) ∧ gR M 176 x = some (177 + 4 * x) ∧ gR M 201 x = some (202 + x)) ∧
  ∀ x, x < 6 → ∀ a, a < 3 → gR M (127 + 4 * x) a = some (128 + 4 * x + a) ∧ gR M (152 + 4 * x) a = some (153 + 4 * x + a) ∧ gR M (177 + 4 * x) a = some (178 + 4 * x + a)
def RWw (M : Mem) (wr : Nat → Nat) : Prop := ∀ x, x < 6 → gR M 119 x = some (wr x)
theorem RW.R {M M1 : Mem} (h : RW M) (e : gR M1 = gR M) : RW M1 := by
  unfold RW
  rw [e]
  exact h
theorem RWw.R {M M1 : Mem} {wr : Nat → Nat} (h : RWw M wr) (e : gR M1 = gR M) : RWw M1 wr := by
  unfold RWw
  rw [e]
  exact h
theorem shL_rows : ∀ x, x < 6 → (shL (113 + x) = some (0, 3) ∧ shL (120 + x) = some (0, 3) ∧ shL (127 + 4 * x) = some (5, 1003) ∧ shL (152 + 4 * x) = some (5, 1003) ∧ shL (177 + 4 * x) = some (5, 1003) ∧ shL (202 + x) = some (3, 3)) := by decide +kernel
theorem shL_rows2 : ∀ x, x < 6 → ∀ a, a < 3 → shL (128 + 4 * x + a) = some (0, 3) ∧ shL (153 + 4 * x + a) = some (0, 6) ∧ shL (178 + 4 * x + a) = some (0, 7) := by decide +kernel
theorem SHF_rows : ∀ x, x < 6 → (SHF (113 + x) = some (0, 3) ∧ SHF (120 + x) = some (0, 3) ∧ SHF (127 + 4 * x) = some (5, 1003) ∧ SHF (152 + 4 * x) = some (5, 1003) ∧ SHF (177 + 4 * x) = some (5, 1003) ∧ SHF (202 + x) = some (3, 3)) := by decide +kernel
theorem SHF_rows2 : ∀ x, x < 6 → ∀ a, a < 3 → SHF (128 + 4 * x + a) = some (0, 3) ∧ SHF (153 + 4 * x + a) = some (0, 6) ∧ SHF (178 + 4 * x + a) = some (0, 7) := by decide +kernel
theorem shB_key {b : Nat} (hb : 212 ≤ b) (o : Nat) (e : SE) (h1 : o < 212) (h2 : SHF o = some e) : shB b o = some e := by
  unfold shB
  rw [if_pos (by omega)]
  exact h2
theorem shB_rows {b : Nat} (hb : 212 ≤ b) (x : Nat) (hx : x < 6) : shB b (113 + x) = some (0, 3) ∧ shB b (120 + x) = some (0, 3) ∧ shB b (127 + 4 * x) = some (5, 1003) ∧ shB b (152 + 4 * x) = some (5, 1003) ∧ shB b (177 + 4 * x) = some (5, 1003) ∧ shB b (202 + x) = some (3, 3) := by
  obtain ⟨a1, a2, a3, a4, a5, a6⟩ := SHF_rows x hx
  exact ⟨shB_key hb _ _ (by omega) a1, shB_key hb _ _ (by omega) a2, shB_key hb _ _ (by omega) a3, shB_key hb _ _ (by omega) a4, shB_key hb _ _ (by omega) a5, shB_key hb _ _ (by omega) a6⟩
theorem shB_rows2 {b : Nat} (hb : 212 ≤ b) (x : Nat) (hx : x < 6) (a : Nat) (ha : a < 3) : shB b (128 + 4 * x + a) = some (0, 3) ∧ shB b (153 + 4 * x + a) = some (0, 6) ∧ shB b (178 + 4 * x + a) = some (0, 7) := by
  obtain ⟨a1, a2, a3⟩ := SHF_rows2 x hx a ha
  exact ⟨shB_key hb _ _ (by omega) a1, shB_key hb _ _ (by omega) a2, shB_key hb _ _ (by omega) a3⟩
theorem mH_gR (M : Mem) (o k : Nat) : gR (mH M) o k = if o = 109 ∧ k = 16 then some 209 else if o = 109 ∧ k = 15 then some 208 else if o = 109 ∧ k = 13 then some 201 else if o = 201 then (if k < 6 then some (201 + 1 + k) else none) else if o = 109 ∧ k = 12 then some 176 else if o = 176 then (if k < 6 then some (176 + 1 + 4 * k) else none) else if 176 < o ∧ o < 176 + 25 ∧ (o - 176) % 4 = 1 then (if k < 3 then some (o + 1 + k) else none) else if o = 109 ∧ k = 11 then some 151 else if o = 151 then (if k < 6 then some (151 + 1 + 4 * k) else none) else if 151 < o ∧ o < 151 + 25 ∧ (o - 151) % 4 = 1 then (if k < 3 then some (o + 1 + k) else none) else if o = 109 ∧ k = 10 then some 126 else if o = 126 then (if k < 6 then some (126 + 1 + 4 * k) else none) else if 126 < o ∧ o < 126 + 25 ∧ (o - 126) % 4 = 1 then (if k < 3 then some (o + 1 + k) else none) else if o = 109 ∧ k = 9 then some 119 else if o = 119 then (if k < 6 then some (119 + 1 + k) else none) else if o = 109 ∧ k = 8 then some 112 else if o = 112 then (if k < 6 then some (112 + 1 + k) else none) else if o = 109 ∧ k = 7 then some 111 else if o = 109 ∧ k = 6 then some 110 else if o = 109 ∧ k = 0 then some 210 else gR (mN M) o k := by
  simp only [mH, mI18, mI17, mI16, mI15, mI14, mI13, mI12, mI11, mI10, mI9, mI8, mI7, mI6, mI5, mI4, mI3, mI2, mI1, mI0, gR_sR, gR_sI, gm2_R, gm3_R]
theorem mH_RW (M : Mem) : RW (mH M) ∧ RWw (mH M) (fun x => 120 + x) := by
  refine ⟨⟨fun x hx => ⟨?_, ?_, ?_, ?_, ?_⟩, fun x hx a ha => ⟨?_, ?_, ?_⟩⟩, fun x hx => ?_⟩ <;> rw [mH_gR]
  all_goals (repeat' (first | rw [if_neg (by omega)] | rw [if_pos (by omega)]))
  all_goals (congr 1; omega)
